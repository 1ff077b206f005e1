/-! the Opener reads a field of the schema -/
abbrev FrFd (x y : St) : Prop := Fg (fun a k => a = 102 ∧ (k = 1 ∨ k = 3) ∨ a = 70) no2 no2 (fun a => 71 ≤ a ∧ a ≤ 81) no1 x y
theorem by_ltr : ∀ t, t < 256 → (ltr ((nI t).toInt8.toInt32) ↔ ltr (nI t)) := by decide +kernel
theorem by_wch : ∀ t, t < 256 → (wch ((nI t).toInt8.toInt32) ↔ (ltr (nI t) ∨ dgt (nI t) ∨ nI t = 95)) := by decide +kernel
theorem st70 (k : Nat) (h1 : 2 ≤ k) (h2 : k ≤ 12) : stC 70 k = 69 + k := by
  have : k = 2 ∨ k = 3 ∨ k = 4 ∨ k = 5 ∨ k = 6 ∨ k = 7 ∨ k = 8 ∨ k = 9 ∨ k = 10 ∨ k = 11 ∨ k = 12 := by omega
  rcases this with rfl | rfl | rfl | rfl | rfl | rfl | rfl | rfl | rfl | rfl | rfl <;> rfl
theorem bt_of {b : Bool} (h : ¬ b = false) : b = true := by cases b; exact absurd rfl h; rfl
theorem bf_of {b : Bool} (h : ¬ b = true) : b = false := by cases b; rfl; exact absurd rfl h
section
variable {x y z : St} {T : Nat → Nat} {n st p b : Nat} {F : List SFd}
theorem FrSr.fd (f : FrSr 102 x y) : FrFd x y := f.mono (fun _ _ z => Or.inl z) (fun _ _ z => z) (fun _ _ z => z) (fun _ z => z.elim) (fun _ z => z)
theorem Fr.fd (f : Fr (fun o _ => o = 70) (rwS 70) x y) : FrFd x y := by
  obtain ⟨f1, f2, f3, f4, f5⟩ := f
  refine ⟨fun o k h => f1 o k (fun z => h (Or.inr z)), fun o k _ => by rw [f3], fun o k _ => by rw [f4], fun a h => f2 a (fun z => h (by obtain ⟨k, k1, k2, k3⟩ := z; rw [st70 k k1 k2] at k3; show 71 ≤ a ∧ a ≤ 81; omega)), fun a _ => by rw [f5], by rw [f5]⟩
theorem k_isNm {post : Int32 → St → Prop} {q m : Nat} (hF : FiC x T n) (hq : q + m ≤ n) (p1 : isNmF (txs T q m) → post 1 x) (p0 : ¬ isNmF (txs T q m) → post 0 x) : wp_Opn_isName post 96 (nI q) (nI m) x := by
  have hn := hF.2.1
  have L82 : fN x 82 = 120255 := hF.1 82 (by decide)
  have tl := txs_len (T := T) (q := q) (m := m)
  unfold wp_Opn_isName j_Opn_isName_26
  rw [show stC (stC 96 0) 6 = 82 from rfl, L82]
  by_cases c1 : m < 1
  · exact br_t (by (first | omega | (simp (disch := omega) only [Int32.le_iff_toInt_le, Int32.lt_iff_toInt_lt, z_eq, z_in, nI_toInt, z_cl, z_m1, z_sg, z_255, Int32.reduceToInt] <;> omega) | (simp only [Int32.le_iff_toInt_le, Int32.lt_iff_toInt_lt, z_eq, z_in, z_add, z_sub, z_mul, z_neg, z_nI, z_cl, z_sg, z_255, z_lit, Int32.reduceToInt] <;> omega))) (p0 (fun z => by have := z.1; omega))
  refine br_f (by (first | omega | (simp (disch := omega) only [Int32.le_iff_toInt_le, Int32.lt_iff_toInt_lt, z_eq, z_in, nI_toInt, z_cl, z_m1, z_sg, z_255, Int32.reduceToInt] <;> omega) | (simp only [Int32.le_iff_toInt_le, Int32.lt_iff_toInt_lt, z_eq, z_in, z_add, z_sub, z_mul, z_neg, z_nI, z_cl, z_sg, z_255, z_lit, Int32.reduceToInt] <;> omega))) ?_
  by_cases c2 : 16 < m
  · exact br_t (by (first | omega | (simp (disch := omega) only [Int32.le_iff_toInt_le, Int32.lt_iff_toInt_lt, z_eq, z_in, nI_toInt, z_cl, z_m1, z_sg, z_255, Int32.reduceToInt] <;> omega) | (simp only [Int32.le_iff_toInt_le, Int32.lt_iff_toInt_lt, z_eq, z_in, z_add, z_sub, z_mul, z_neg, z_nI, z_cl, z_sg, z_255, z_lit, Int32.reduceToInt] <;> omega))) (p0 (fun z => by have := z.2.1; omega))
  refine br_f (by (first | omega | (simp (disch := omega) only [Int32.le_iff_toInt_le, Int32.lt_iff_toInt_lt, z_eq, z_in, nI_toInt, z_cl, z_m1, z_sg, z_255, Int32.reduceToInt] <;> omega) | (simp only [Int32.le_iff_toInt_le, Int32.lt_iff_toInt_lt, z_eq, z_in, z_add, z_sub, z_mul, z_neg, z_nI, z_cl, z_sg, z_255, z_lit, Int32.reduceToInt] <;> omega))) ⟨vp_in_nI (by omega) (by decide), ?_⟩
  have hT := hF.2.2.1
  have row : ∀ i, i < m → rA x 82 (nI (q + i)) = (nI (T (q + i))).toInt8.toInt32 := fun i hi => by rw [rA_nI (by omega)]; exact hF.2.2.2 _ (by omega)
  have r0 := row 0 (by omega)
  rw [Nat.add_zero] at r0
  rw [r0]
  refine c_isLetter ?_
  have lt0 := by_ltr (T q) (hT q)
  by_cases cl : ltr (nI (T q))
  rotate_left
  · rw [if_neg (fun z => cl (lt0.mp z))]
    refine bn_t rfl (p0 (fun z => ?_))
    have := z.2.2 0 (by omega)
    rw [txs_at (by omega)] at this
    rcases this with h | h
    · exact cl h
    · exact absurd h.1 (Nat.lt_irrefl _)
  rw [if_pos (lt0.mpr cl)]
  refine bn_f (by decide) ?_
  refine lp_Opn_isName_30 (fun a0 a1 a2 a3 y => 96 = a0 ∧ nI q = a1 ∧ nI m = a2 ∧ x = y ∧ ∃ k, nI k = a3 ∧ 1 ≤ k ∧ k ≤ m ∧ ∀ i, 1 ≤ i → i < k → ltr (nI (T (q + i))) ∨ dgt (nI (T (q + i))) ∨ nI (T (q + i)) = 95) (fun _ _ _ a3 _ => m - a3.toNatClampNeg) ?_ _ _ _ _ _ ⟨rfl, rfl, rfl, rfl, 1, rfl, Nat.le_refl _, by omega, fun i h1 h2 => by omega⟩
  rintro Q a0 a1 a2 a3 y ⟨rfl, rfl, rfl, rfl, k, rfl, k0, k1, hk⟩ ih
  unfold j_Opn_isName_30
  rw [show stC (stC 96 0) 6 = 82 from rfl, L82, nI_add]
  by_cases ck : k < m
  · refine br_f (by (first | omega | (simp (disch := omega) only [Int32.le_iff_toInt_le, Int32.lt_iff_toInt_lt, z_eq, z_in, nI_toInt, z_cl, z_m1, z_sg, z_255, Int32.reduceToInt] <;> omega) | (simp only [Int32.le_iff_toInt_le, Int32.lt_iff_toInt_lt, z_eq, z_in, z_add, z_sub, z_mul, z_neg, z_nI, z_cl, z_sg, z_255, z_lit, Int32.reduceToInt] <;> omega))) ⟨vp_in_nI (by omega) (by decide), ?_⟩
    rw [row k ck]
    refine c_isOfWord ?_
    have wk := by_wch (T (q + k)) (hT _)
    by_cases cw : ltr (nI (T (q + k))) ∨ dgt (nI (T (q + k))) ∨ nI (T (q + k)) = 95
    · rw [if_pos (wk.mpr cw), nI_1]
      refine bn_f (by decide) (ih _ _ _ _ _ ⟨rfl, rfl, rfl, rfl, k + 1, rfl, by omega, by omega, fun i h1 h2 => ?_⟩ (by rw [nI_clamp (by omega), nI_clamp (by omega)]; omega))
      by_cases e : i = k
      · rw [e]; exact cw
      · exact hk i h1 (by omega)
    · rw [if_neg (fun z => cw (wk.mp z))]
      refine bn_t rfl (p0 (fun z => cw ?_))
      have := z.2.2 k (by omega)
      rw [txs_at ck] at this
      rcases this with h | ⟨-, h | h⟩
      · exact Or.inl h
      · exact Or.inr (Or.inl h)
      · exact Or.inr (Or.inr h)
  · refine br_t (by (first | omega | (simp (disch := omega) only [Int32.le_iff_toInt_le, Int32.lt_iff_toInt_lt, z_eq, z_in, nI_toInt, z_cl, z_m1, z_sg, z_255, Int32.reduceToInt] <;> omega) | (simp only [Int32.le_iff_toInt_le, Int32.lt_iff_toInt_lt, z_eq, z_in, z_add, z_sub, z_mul, z_neg, z_nI, z_cl, z_sg, z_255, z_lit, Int32.reduceToInt] <;> omega))) (p1 ⟨by omega, by omega, fun i hi => ?_⟩)
    rw [tl] at hi
    rw [txs_at hi]
    by_cases e : i = 0
    · rw [e]; exact Or.inl cl
    · rcases hk i (by omega) (by omega) with h | h
      · exact Or.inl h
      · exact Or.inr ⟨by omega, h⟩
theorem k_grpA {post : Int32 → St → Prop} {g : Nat} (hL : LC x) (hw : WfS F) (hR : RepC x 70 F) (hg : g < 2 ^ 64) (p1 : plcd F g → post 1 x) (p0 : ¬ plcd F g → post 0 x) : wp_Opn_isGroupAround post 70 (lN g) (nI F.length) x := by
  have h128 := hw.1
  have L72 : fN x 72 = 128 := hL 72 (by decide)
  have L73 : fN x 73 = 128 := hL 73 (by decide)
  unfold wp_Opn_isGroupAround
  rw [show stC 70 3 = 72 from rfl, show stC 70 4 = 73 from rfl, lg_cmp_eq, show (0 : Int64) = lN 0 from rfl]
  by_cases c0 : g = 0
  · exact bn_t (by rw [c0]) (p1 (Or.inl c0))
  refine bn_f (fun z => c0 (lN_inj hg (by decide) z)) ?_
  -- the walk up from a group
  have walk : ∀ v0 : Int32, (v0 = -1 ∧ (∀ h, h < F.length → fTy F h = 4 → ¬ dsc F h (F.length - 1)) ∨ ∃ f, v0 = nI f ∧ f < F.length ∧ fTy F f = 4 ∧ dsc F f (F.length - 1) ∧ ∀ h, h < F.length → fTy F h = 4 → dsc F h (F.length - 1) → h ≤ f) → j_Opn_isGroupAround_38 post 70 (lN g) (nI F.length) v0 x := fun v0 hv => by
    unfold j_Opn_isGroupAround_38
    refine lp_Opn_isGroupAround_41 (fun a0 a1 a2 a3 a4 y => 70 = a0 ∧ lN g = a1 ∧ x = y ∧ ∃ i, nI i = a4 ∧ i ≤ 16 ∧ ((a3 = -1 ∧ ∀ h, h < F.length → fTy F h = 4 → dsc F h (F.length - 1) → h ≠ g - 1) ∨ ∃ f, a3 = nI f ∧ f < F.length ∧ fTy F f = 4 ∧ dsc F f (F.length - 1) ∧ i + upS wOne (fPa F) (nI f) ≤ 16 ∧ ∀ h, h < F.length → fTy F h = 4 → dsc F h (F.length - 1) → f < h → h ≠ g - 1)) (fun _ _ _ _ a4 _ => 20 - a4.toNatClampNeg) ?_ _ _ _ _ _ _ ⟨rfl, rfl, rfl, 0, rfl, by decide, ?_⟩
    · rintro Q a0 a1 a2 a3 a4 y ⟨rfl, rfl, rfl, i, rfl, i1, h⟩ ih
      unfold j_Opn_isGroupAround_41 j_Opn_isGroupAround_80
      rw [show stC 70 4 = 73 from rfl, L73]
      refine br_f (by (first | omega | (simp (disch := omega) only [Int32.le_iff_toInt_le, Int32.lt_iff_toInt_lt, z_eq, z_in, nI_toInt, z_cl, z_m1, z_sg, z_255, Int32.reduceToInt] <;> omega) | (simp only [Int32.le_iff_toInt_le, Int32.lt_iff_toInt_lt, z_eq, z_in, z_add, z_sub, z_mul, z_neg, z_nI, z_cl, z_sg, z_255, z_lit, Int32.reduceToInt] <;> omega))) ?_
      rcases h with ⟨rfl, h1⟩ | ⟨f, rfl, f1, f2, f3, f4, f5⟩
      · refine br_t (by decide) (p0 (fun z => ?_))
        rcases z with z | ⟨z1, z2, z3⟩
        · exact c0 z
        · exact h1 (g - 1) (by omega) z2 z3 rfl
      · refine br_f (by (first | omega | (simp (disch := omega) only [Int32.le_iff_toInt_le, Int32.lt_iff_toInt_lt, z_eq, z_in, nI_toInt, z_cl, z_m1, z_sg, z_255, Int32.reduceToInt] <;> omega) | (simp only [Int32.le_iff_toInt_le, Int32.lt_iff_toInt_lt, z_eq, z_in, z_add, z_sub, z_mul, z_neg, z_nI, z_cl, z_sg, z_255, z_lit, Int32.reduceToInt] <;> omega))) ?_
        rw [lN_sub1 (by omega), show (nI f).toInt64 = lN f from nI_l (by omega), lg_cmp_eq]
        by_cases cf : g - 1 = f
        · exact bn_t (by rw [cf]) (p1 (Or.inr ⟨by omega, by rw [cf]; exact f2, by rw [cf]; exact f3⟩))
        · have uf := upS_at (w := wOne) hw.2.2.1 f1
          have one : wOne f = 1 := rfl
          refine bn_f (fun z => cf (lN_inj (by omega) (by omega) z)) ⟨vp_in_nI (by omega) (by decide), nm_r (e' := fPa F f) (by rw [rA_nI (by omega)]; exact (hR.2.2.2.1 f f1).2.2.1) ?_⟩
          rw [nI_1]
          refine ih _ _ _ _ _ _ ⟨rfl, rfl, rfl, i + 1, rfl, by omega, ?_⟩ (by rw [nI_clamp (by omega), nI_clamp (by omega)]; omega)
          -- what lies above it
          have upw : ∀ h, h < F.length → dsc F h (F.length - 1) → h < f → ∃ v, v < f ∧ fPa F f = nI v ∧ dsc F h v := fun h h1 h2 h3 => by
            have m1 := (dsc_iff hw h1 (by omega)).mp h2
            have m2 := (dsc_iff hw f1 (by omega)).mp f3
            have hd : dsc F h f := (dsc_iff hw h1 f1).mpr ⟨by omega, by omega⟩
            exact dsc_pa hw f1 hd (by omega)
          rcases hw.2.2.1.2 f f1 with e | ⟨v, v1, v2⟩
          · refine Or.inl ⟨e, fun h h1 h2 h3 => ?_⟩
            by_cases ch : f < h
            · exact f5 h h1 h2 h3 ch
            · by_cases eh : h = f
              · omega
              · obtain ⟨w, w1, w2, -⟩ := upw h h1 h3 (by omega)
                rw [e] at w2
                exact absurd w2.symm (nI_nm1 (by omega))
          · rw [v2] at uf
            refine Or.inr ⟨v, v2, by omega, (hw.2.2.2.2.1 f v f1 v2 v1).1, dsc_trans hw (dsc_in hw f1 v1 v2 (dsc_self hw (by omega))) _ (by omega) f3, by omega, fun h h1 h2 h3 h4 => ?_⟩
            by_cases ch : f < h
            · exact f5 h h1 h2 h3 ch
            · by_cases eh : h = f
              · omega
              · obtain ⟨w, w1, w2, w3⟩ := upw h h1 h3 (by omega)
                rw [v2] at w2
                have := nI_inj (by omega) (by omega) w2
                subst this
                have := dsc_le hw (by omega) w3
                omega
    · rcases hv with ⟨h1, h2⟩ | ⟨f, h1, h2, h3, h4, h5⟩
      · exact Or.inl ⟨h1, fun h a b c => absurd c (h2 h a b)⟩
      · refine Or.inr ⟨f, h1, h2, h3, h4, by rw [Nat.zero_add]; exact hw.2.2.2.2.2.1 f h2 h3, fun h a b c d => ?_⟩
        have := h5 h a b c
        omega
  by_cases cF : F.length = 0
  · refine nm_r (e' := -1) (by rw [cF]; rfl) (br_t (by decide) (walk (-1) (Or.inl ⟨rfl, fun h hh => by omega⟩)))
  have l1 : F.length - 1 < F.length := by omega
  obtain ⟨-, g3, g4, -⟩ := hR.2.2.2.1 _ l1
  refine nm_r (e' := nI (F.length - 1)) (by rw [show (1 : Int32) = nI 1 from rfl, nI_sub (by omega)]) (br_f (by (first | omega | (simp (disch := omega) only [Int32.le_iff_toInt_le, Int32.lt_iff_toInt_lt, z_eq, z_in, nI_toInt, z_cl, z_m1, z_sg, z_255, Int32.reduceToInt] <;> omega) | (simp only [Int32.le_iff_toInt_le, Int32.lt_iff_toInt_lt, z_eq, z_in, z_add, z_sub, z_mul, z_neg, z_nI, z_cl, z_sg, z_255, z_lit, Int32.reduceToInt] <;> omega))) ⟨by rw [L72]; exact vp_in_nI (by omega) (by decide), ?_⟩)
  rw [rA_nI (by omega), rA_nI (by omega), show fA x 72 (F.length - 1) = fTy F (F.length - 1) from g3, show fA x 73 (F.length - 1) = fPa F (F.length - 1) from g4]
  by_cases c4 : fTy F (F.length - 1) = 4
  · exact br_t c4 (walk _ (Or.inr ⟨F.length - 1, rfl, l1, c4, dsc_self hw l1, fun h hh _ _ => by omega⟩))
  · refine br_f c4 ⟨by rw [L73]; exact vp_in_nI (by omega) (by decide), nm_e (walk _ ?_)⟩
    rcases hw.2.2.1.2 _ l1 with e | ⟨v, v1, v2⟩
    · refine Or.inl ⟨e, fun h h1 h2 h3 => ?_⟩
      by_cases eh : F.length - 1 = h
      · rw [eh] at c4; exact c4 h2
      · obtain ⟨w, w1, w2, -⟩ := dsc_pa hw l1 h3 eh
        rw [e] at w2
        exact absurd w2.symm (nI_nm1 (by omega))
    · refine Or.inr ⟨v, v2, by omega, (hw.2.2.2.2.1 _ v l1 v2 v1).1, dsc_in hw l1 v1 v2 (dsc_self hw (by omega)), fun h h1 h2 h3 => ?_⟩
      by_cases eh : F.length - 1 = h
      · rw [eh] at c4; exact absurd h2 c4
      · obtain ⟨w, w1, w2, w3⟩ := dsc_pa hw l1 h3 eh
        rw [v2] at w2
        have := nI_inj (by omega) (by omega) w2
        subst this
        exact dsc_le hw (by omega) w3
theorem k_field {post : St → Prop} (S : Sr 102 x T n p st) (hw : WfS F) (hR : RepC x 70 F)
    (pe : ∀ e y, fdO T F st p = .error e → FrFd x y → FlC 102 y e → RepC y 70 F → post y)
    (pk : ∀ F' q y, fdO T F st p = .ok (F', q) → FrFd x y → Sr 102 y T n q st → RepC y 70 F' → WfS F' → F'.length = F.length + 1 → post y) : wp_Opn_readField post 96 70 (nI F.length) x := by
  have hS := S.le
  have hT := S.t
  have h128 := hw.1
  have rep : ∀ {u v : St}, FrSr 102 u v → RepC u 70 F → RepC v 70 F := fun f h => h.cg7 (f.ii (by decide)) (f.ii (by decide)) (fun r _ _ => f.aa id)
  unfold wp_Opn_readField
  rw [show stC 96 1 = 102 from rfl]
  refine r_byte so2 S (fun e y y1 y2 y3 => k_vrd0 y3.ne (k_vrd0 y3.ne (k_has0 y3.ne (bn_t rfl (pe e y (by unfold fdO; rw [y1]) (FrSr.fd y2) y3 (rep y2 hR)))))) (fun y y1 y2 Sy c1 => ?_)
  refine r_vrd so2 Sy (fun e z z1 z2 z3 => k_vrd0 z3.ne (k_has0 z3.ne (bn_t rfl (pe e z (by unfold fdO; rw [y1]; simp only; rw [z1]) (Fg.trans (FrSr.fd y2) (FrSr.fd z2)) z3 (rep z2 (rep y2 hR)))))) (fun g q1 z z1 z2 Sz v1 v2 => ?_)
  refine r_vrd so2 Sz (fun e u u1 u2 u3 => k_has0 u3.ne (bn_t rfl (pe e u (by unfold fdO; rw [y1]; simp only; rw [z1]; simp only; rw [u1]) (Fg.trans (Fg.trans (FrSr.fd y2) (FrSr.fd z2)) (FrSr.fd u2)) u3 (rep u2 (rep z2 (rep y2 hR)))))) (fun m q2 u u1 u2 Su w1 w2 => ?_)
  have fu : FrFd x u := Fg.trans (Fg.trans (FrSr.fd y2) (FrSr.fd z2)) (FrSr.fd u2)
  have Ru : RepC u 70 F := rep u2 (rep z2 (rep y2 hR))
  have hSu := Su.le
  have ef : fdO T F st p = (if st < q2 + m then .error 1 else if 14 < T p ∨ ¬ plcd F g ∨ ¬ isNmF (txs T q2 m) then .error 15 else if hasN F (grI g) (txs T q2 m) = true ∨ mayF F (nI (T p / 3)) (grI g) = false then .error 15 else .ok (F ++ [(nI (T p % 3), nI (T p / 3), grI g, txs T q2 m)], q2 + m)) := by
    unfold fdO; rw [y1]; simp only; rw [z1]; simp only; rw [u1]
  refine r_has w1 Su (fun v c v1 v2 => bn_t rfl (pe 1 v (by rw [ef, if_pos c]) (Fg.trans fu (FrSr.fd v1)) v2 (rep v1 Ru))) (fun c => bn_f (by decide) ?_)
  rw [if_neg (by omega)] at ef
  rw [Su.hp, lN_i, nI_add]
  refine nm_e (nm_e ?_)
  have fv : FrSr 102 u (setI u 102 1 (nI (q2 + m))) := Fg.i ⟨rfl, by decide⟩
  have Sv : Sr 102 (setI u 102 1 (nI (q2 + m))) T n (q2 + m) st := fv.mv Su gI_at ((gI_ne (by decide)).trans Su.h0) c
  have Rv := rep fv Ru
  have fxv : FrFd x (setI u 102 1 (nI (q2 + m))) := Fg.trans fu (FrSr.fd fv)
  generalize setI u 102 1 (nI (q2 + m)) = v at *
  have hTp := hT p
  -- it is refused
  have bad : fdO T F st p = .error 15 → ∀ s0, j_Opn_readField_141 post 96 70 (nI F.length) (nI (T p)) (lN g) (lN m) (nI q2) s0 102 v := fun er s0 => by
    unfold j_Opn_readField_141 j_Opn_readField_142
    exact r_ck0 15 Sv (by decide) (by decide) (fun w s1 s2 => pe 15 w er (Fg.trans fxv (FrSr.fd s1)) s2 (rep s1 Rv))
  have b95 : fdO T F st p = .error 15 → j_Opn_readField_95 post 96 70 (nI F.length) (nI (T p)) (lN g) (lN m) (nI q2) v := fun er => by
    unfold j_Opn_readField_95 j_Opn_readField_96
    exact br_t rfl (bad er 0)
  by_cases c14 : 14 < T p
  · exact br_t (by (first | omega | (simp (disch := omega) only [Int32.le_iff_toInt_le, Int32.lt_iff_toInt_lt, z_eq, z_in, nI_toInt, z_cl, z_m1, z_sg, z_255, Int32.reduceToInt] <;> omega) | (simp only [Int32.le_iff_toInt_le, Int32.lt_iff_toInt_lt, z_eq, z_in, z_add, z_sub, z_mul, z_neg, z_nI, z_cl, z_sg, z_255, z_lit, Int32.reduceToInt] <;> omega))) (b95 (by rw [ef, if_pos (Or.inl c14)]))
  refine br_f (by (first | omega | (simp (disch := omega) only [Int32.le_iff_toInt_le, Int32.lt_iff_toInt_lt, z_eq, z_in, nI_toInt, z_cl, z_m1, z_sg, z_255, Int32.reduceToInt] <;> omega) | (simp only [Int32.le_iff_toInt_le, Int32.lt_iff_toInt_lt, z_eq, z_in, z_add, z_sub, z_mul, z_neg, z_nI, z_cl, z_sg, z_255, z_lit, Int32.reduceToInt] <;> omega))) (k_grpA Sv.1.1 hw Rv v1 (fun cp => br_f (by decide) ?_) (fun cp => br_t rfl (b95 (by rw [ef, if_pos (Or.inr (Or.inl cp))]))))
  refine k_isNm Sv.1 (by omega) (fun cn => br_f (by decide) ?_) (fun cn => br_t rfl (b95 (by rw [ef, if_pos (Or.inr (Or.inr cn))])))
  rw [if_neg (fun h => by rcases h with h | h | h; exact c14 h; exact h cp; exact h cn)] at ef
  obtain ⟨k1, k2, k3, k4, k5⟩ := k15 (T p) (by omega)
  have tl := txs_len (T := T) (q := q2) (m := m)
  have egr : (lN g).toInt32 - 1 = grI g := by
    rw [lN_i]
    unfold grI
    by_cases c0 : g = 0
    · rw [c0, if_pos rfl]; rfl
    · rw [if_neg c0, show (1 : Int32) = nI 1 from rfl, nI_sub (by omega)]
  have L82 : fN v 82 = 120255 := Sv.1.1 82 (by decide)
  have hn := S.1.2.1
  unfold j_Opn_readField_96
  rw [k2, k1, egr, lN_i, show stC (stC 96 0) 6 = 82 from rfl]
  refine br_f (by decide) (c_add (T := fun i => nI (T i)) (Or.inr (Or.inr rfl)) Sv.1.1 Rv hw (plcd_gIn cp) ⟨by omega, by rw [L82]; decide, fun i hi => ⟨Sv.1.2.2.2 _ (by omega), by have := hT (q2 + i); (first | omega | (simp (disch := omega) only [Int32.le_iff_toInt_le, Int32.lt_iff_toInt_lt, z_eq, z_in, nI_toInt, z_cl, z_m1, z_sg, z_255, Int32.reduceToInt] <;> omega) | (simp only [Int32.le_iff_toInt_le, Int32.lt_iff_toInt_lt, z_eq, z_in, z_add, z_sub, z_mul, z_neg, z_nI, z_cl, z_sg, z_255, z_lit, Int32.reduceToInt] <;> omega)), by have := hT (q2 + i); (first | omega | (simp (disch := omega) only [Int32.le_iff_toInt_le, Int32.lt_iff_toInt_lt, z_eq, z_in, nI_toInt, z_cl, z_m1, z_sg, z_255, Int32.reduceToInt] <;> omega) | (simp only [Int32.le_iff_toInt_le, Int32.lt_iff_toInt_lt, z_eq, z_in, z_add, z_sub, z_mul, z_neg, z_nI, z_cl, z_sg, z_255, z_lit, Int32.reduceToInt] <;> omega))⟩⟩ (fun k k1 k2 => by have : stC 70 k = 69 + k := st70 k k1 k2; omega) (fun h => br_t rfl (bad ?_ _)) (fun h w s1 s2 => br_f (by decide) ?_))
  · rw [ef]
    by_cases e1 : hasN F (grI g) (txs T q2 m) = true ∨ mayF F (nI (T p / 3)) (grI g) = false
    · rw [if_pos e1]
    · exact absurd ⟨by have := cn.1; omega, by have := cn.2.1; omega, bt_of (fun z => e1 (Or.inr z)), bf_of (fun z => e1 (Or.inl z))⟩ h
  · rw [if_neg (fun z => by rcases z with z | z; rw [show txs T q2 m = rowL (fun i => nI (T i)) q2 m from rfl, h.2.2.2] at z; exact absurd z (by decide); rw [h.2.2.1] at z; exact absurd z (by decide))] at ef
    have fw := Fr.fd s1
    unfold j_Opn_readField_142
    refine k_ck1 (pk _ _ w ef (Fg.trans fxv fw) ?_ s2 (WfS_add hw (plcd_gIn cp) k3 ⟨k4, k5⟩ h.2.2.1 h.2.2.2 cn.1 cn.2.1) (by rw [List.length_append]; rfl))
    have eI : ∀ a k, a ≠ 70 → fI w a k = fI v a k := fun a k ha => s1.1 a k ha
    exact ⟨⟨fun r hr => (fw.len r).trans (Sv.1.1 r hr), Sv.1.2.1, Sv.1.2.2.1, fun i hi => by rw [fw.aa (by decide)]; exact Sv.1.2.2.2 i hi⟩, (eI _ _ (by decide)).trans Sv.h0, (eI _ _ (by decide)).trans Sv.hp, (eI _ _ (by decide)).trans Sv.hs, Sv.2.2.2.2.1, Sv.2.2.2.2.2⟩
end
