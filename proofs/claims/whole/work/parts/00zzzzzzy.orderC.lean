/-! the Opener checks bounds and the order of levels -/
theorem rF_mono {F : List SFd} (hw : WfS F) {g : Nat} : ∀ f, f < F.length → dsc F g f → rF F g ≤ rF F f := by
  intro f
  induction f using Nat.strongRecOn with
  | ind f ih =>
    intro hf d
    by_cases e : f = g
    · rw [e]; exact Nat.le_refl _
    · obtain ⟨h, h1, h2, h3⟩ := dsc_pa hw hf d e
      have := ih h h1 (by omega) h3
      have u := upS_at (w := wRep (fKd F)) hw.2.2.1 hf
      rw [h2] at u
      show rF F g ≤ upS (wRep (fKd F)) (fPa F) (nI f)
      rw [u]
      have : rF F g ≤ upS (wRep (fKd F)) (fPa F) (nI h) := this
      omega
section
variable {x y z : St} {T : Nat → Nat} {n st p b : Nat} {F : List SFd}
theorem k_defOf {post : Int32 → St → Prop} {leaf r : Nat} (hw : WfS F) (hR : RepC x 70 F) (hL : LC x) (hf : leaf < F.length) (h1 : 1 ≤ r) (h2 : r ≤ rF F leaf) (k : post (nI (dG F (nI (tpR F leaf r)))) x) : wp_Opn_defOfRepeated post 96 (nI leaf) (nI r) x := by
  have r17 := rF_le hw hf
  have hF := hw.1
  unfold wp_Opn_defOfRepeated
  have dl : upS wOne (fPa F) (nI leaf) ≤ 17 := up17 hw (Or.inr ⟨leaf, hf, rfl⟩) (fun _ => Nat.le_refl _)
  rw [show stC (stC 96 0) 5 = 70 from rfl]
  refine lp_Opn_defOfRepeated_14 (fun a0 a1 a2 a3 a4 a5 y => 96 = a0 ∧ nI r = a2 ∧ 70 = a3 ∧ x = y ∧ ∃ f i, nI f = a4 ∧ nI i = a5 ∧ f < F.length ∧ dsc F f leaf ∧ r ≤ rF F f ∧ i + upS wOne (fPa F) (nI f) = upS wOne (fPa F) (nI leaf)) (fun _ _ _ _ a4 _ _ => a4.toNatClampNeg) ?_ _ _ _ _ _ _ _ ⟨rfl, rfl, rfl, rfl, leaf, 0, rfl, rfl, hf, dsc_self hw hf, h2, Nat.zero_add _⟩
  rintro Q a0 a1 a2 a3 a4 a5 y ⟨rfl, rfl, rfl, rfl, f, i, rfl, rfl, f1, f2, f3, f4⟩ ih
  obtain ⟨g2, -, g4, g5, g6, -⟩ := hR.2.2.2.1 f f1
  have u1 := upS_at (w := wOne) hw.2.2.1 f1
  have ur := upS_at (w := wRep (fKd F)) hw.2.2.1 f1
  have one : wOne f = 1 := rfl
  unfold j_Opn_defOfRepeated_14 j_Opn_defOfRepeated_57
  have fr : rF F f ≤ 17 := rF_le hw f1
  rw [rA_nI (by omega), rA_nI (by omega), rA_nI (by omega), rA_nI (by omega), g2, g4, g5, g6]
  have vin : ∀ r, r = 71 ∨ r = 73 ∨ r = 74 ∨ r = 75 → vp_in (nI f) (fN x r) := fun r hr => by
    have : fN x r = 128 := by rcases hr with rfl | rfl | rfl | rfl <;> exact hL _ (by decide)
    rw [this]
    exact vp_in_nI (by omega) (by decide)
  refine br_f (by (first | omega | (simp (disch := omega) only [Int32.le_iff_toInt_le, Int32.lt_iff_toInt_lt, z_eq, z_in, nI_toInt, z_cl, z_m1, z_sg, z_255, Int32.reduceToInt] <;> omega) | (simp only [Int32.le_iff_toInt_le, Int32.lt_iff_toInt_lt, z_eq, z_in, z_add, z_sub, z_mul, z_neg, z_nI, z_cl, z_sg, z_255, z_lit, Int32.reduceToInt] <;> omega))) (br_f (nI_nm1 (by omega)) ⟨vin 71 (Or.inl rfl), ?_⟩)
  -- up
  have up : (¬ (fKd F f = 2 ∧ rF F f = r)) → (vp_in (nI f) (fN x (stC 70 4)) ∧ (∀ v1 : Int32, v1 = fPa F f → Q 96 a1 (nI r) 70 v1 (nI i + 1) x)) := fun c => by
    refine ⟨vin 73 (Or.inr (Or.inl rfl)), nm_e ?_⟩
    have rg : r ≤ upS (wRep (fKd F)) (fPa F) (fPa F f) := by
      have f3' : r ≤ upS (wRep (fKd F)) (fPa F) (nI f) := f3
      rw [ur] at f3'
      by_cases ck : fKd F f = 2
      · have : rF F f ≠ r := fun z => c ⟨ck, z⟩
        have w1 : wRep (fKd F) f = 1 := if_pos ck
        have : upS (wRep (fKd F)) (fPa F) (nI f) ≠ r := this
        omega
      · have w0 : wRep (fKd F) f = 0 := if_neg ck
        omega
    rcases hw.2.2.1.2 f f1 with e | ⟨g, e1, e2⟩
    · rw [e, upS_neg] at rg
      omega
    · rw [e2] at rg u1 ⊢
      rw [nI_1]
      refine ih _ _ _ _ _ _ _ ⟨rfl, rfl, rfl, rfl, g, i + 1, rfl, rfl, by omega, ?_, rg, by omega⟩ (by rw [nI_clamp (by omega), nI_clamp (by omega)]; exact e1)
      exact dsc_trans hw (dsc_in hw f1 e1 e2 (dsc_self hw (by omega))) leaf hf f2
  by_cases ck : fKd F f = 2
  · refine bn_t ck ⟨vin 74 (Or.inr (Or.inr (Or.inl rfl))), ?_⟩
    by_cases cr : rF F f = r
    · refine bn_t (congrArg nI cr) ⟨vin 75 (Or.inr (Or.inr (Or.inr rfl))), ?_⟩
      have et : tpR F leaf r = f := tpR_is f1 f2 f3 (fun g hg gd gr => by
        have l1 := (dsc_iff hw (by omega) hf).mp gd
        have l2 := (dsc_iff hw f1 hf).mp f2
        have gf : dsc F g f := (dsc_iff hw (by omega) f1).mpr ⟨by omega, by omega⟩
        obtain ⟨h, h1, h2, h3⟩ := dsc_pa hw f1 gf (by omega)
        have := rF_mono hw h (by omega) h3
        rw [h2] at ur
        have w1 : wRep (fKd F) f = 1 := if_pos ck
        have cr' : upS (wRep (fKd F)) (fPa F) (nI f) = r := cr
        have : rF F g ≤ upS (wRep (fKd F)) (fPa F) (nI h) := this
        omega)
      rw [et] at k
      exact k
    · exact bn_f (fun z => cr (nI_inj (a := rF F f) (by omega) (by omega) z)) (up (fun z => cr z.2))
  · exact bn_f ck (up (fun z => ck z.1))
theorem k_order0 {post : St → Prop} {f m : Int32} (h0 : ¬ fI x 104 3 = 0) (q : post x) : wp_Opn_checkOrder post 96 f m x := ⟨1, by
  unfold wl_Opn_checkOrder_2 j_Opn_checkOrder_2
  exact ⟨fun _ => q, fun _ => ⟨fun _ => q, fun z => absurd z h0⟩⟩⟩
theorem k_order {post : St → Prop} {leaf m E : Nat} {R D : List Nat} (S : Sr 104 x T n p st) (hw : WfS F) (hR : RepC x 70 F) (hf : leaf < F.length) (hE : fI x 97 4 = nI E) (hE2 : E ≤ 10000) (hm : m ≤ 1000) (hrow : ∀ i, i < m → fA x 83 (E + i) = nI (R.getD i 0) ∧ fA x 84 (E + i) = nI (D.getD i 0)) (hr : ∀ i, i < m → R.getD i 0 ≤ rF F leaf) (hd : ∀ i, i < m → D.getD i 0 ≤ 17)
    (pe : ∀ y, (∃ k, k < m ∧ 1 ≤ k ∧ badO F leaf R D k) → FrSr 104 x y → FlC 104 y 20 → post y)
    (pk : (¬ ∃ k, k < m ∧ 1 ≤ k ∧ badO F leaf R D k) → post x) : wp_Opn_checkOrder post 96 (nI leaf) (nI m) x := by
  have L83 : fN x 83 = 11001 := S.1.1 83 (by decide)
  have L84 : fN x 84 = 11001 := S.1.1 84 (by decide)
  have r17 := rF_le hw hf
  unfold wp_Opn_checkOrder
  refine lp_Opn_checkOrder_2 (fun a0 a1 a2 a3 y => 96 = a0 ∧ nI leaf = a1 ∧ nI m = a2 ∧ FrSr 104 x y ∧ ∃ k, nI k = a3 ∧ 1 ≤ k ∧ k ≤ m + 1 ∧ ((FlC 104 y 20 ∧ ∃ k, k < m ∧ 1 ≤ k ∧ badO F leaf R D k) ∨ x = y ∧ ∀ j, j < k → 1 ≤ j → ¬ badO F leaf R D j)) (fun _ _ _ a3 _ => m + 1 - a3.toNatClampNeg) ?_ _ _ _ _ _ ⟨rfl, rfl, rfl, Fg.refl x, 1, rfl, Nat.le_refl _, by omega, Or.inr ⟨rfl, fun j h1 h2 => by omega⟩⟩
  rintro Q a0 a1 a2 a3 y ⟨rfl, rfl, rfl, y1, k, rfl, k0, k1, y2⟩ ih
  unfold j_Opn_checkOrder_2
  rw [show stC (stC 96 0) 7 = 83 from rfl, show stC (stC 96 0) 8 = 84 from rfl, show stC 96 0 = 97 from rfl, show stC 96 2 = 104 from rfl]
  rcases y2 with ⟨f1, f2⟩ | ⟨rfl, y3⟩
  · exact ⟨fun _ => pe y f2 y1 f1, fun _ => ⟨fun _ => pe y f2 y1 f1, fun w => absurd w f1.ne⟩⟩
  by_cases ck : k < m
  · refine br_f (by (first | omega | (simp (disch := omega) only [Int32.le_iff_toInt_le, Int32.lt_iff_toInt_lt, z_eq, z_in, nI_toInt, z_cl, z_m1, z_sg, z_255, Int32.reduceToInt] <;> omega) | (simp only [Int32.le_iff_toInt_le, Int32.lt_iff_toInt_lt, z_eq, z_in, z_add, z_sub, z_mul, z_neg, z_nI, z_cl, z_sg, z_255, z_lit, Int32.reduceToInt] <;> omega))) (bn_t S.h0 ?_)
    rw [hE, nI_add, L83]
    obtain ⟨e1, e2⟩ := hrow k ck
    obtain ⟨-, e3⟩ := hrow (k - 1) (by omega)
    have rk := hr k ck
    have d1 := hd k ck
    have d2 := hd (k - 1) (by omega)
    refine ⟨vp_in_nI (by omega) (by decide), nm_r (e' := nI (R.getD k 0)) (by rw [rA_nI (by omega), e1]) ?_⟩
    have nx : ∀ z l4, FrSr 104 x z → ((FlC 104 z 20 ∧ ∃ k, k < m ∧ 1 ≤ k ∧ badO F leaf R D k) ∨ x = z ∧ ¬ badO F leaf R D k) → j_Opn_checkOrder_107 post Q 96 (nI leaf) (nI m) (nI k) l4 z := fun z l4 z1 z2 => by
      unfold j_Opn_checkOrder_107
      rw [nI_1]
      refine ih _ _ _ _ _ ⟨rfl, rfl, rfl, z1, k + 1, rfl, by omega, by omega, ?_⟩ (by rw [nI_clamp (by omega), nI_clamp (by omega)]; omega)
      rcases z2 with z2 | ⟨rfl, z2⟩
      · exact Or.inl z2
      · refine Or.inr ⟨rfl, fun j h1 h2 => ?_⟩
        by_cases ej : j = k
        · rw [ej]; exact z2
        · exact y3 j (by omega) h2
    by_cases c0 : R.getD k 0 = 0
    · exact br_t (by rw [c0]; decide) (nx x _ (Fg.refl x) (Or.inr ⟨rfl, fun z => z.1 c0⟩))
    · refine br_f (by (first | omega | (simp (disch := omega) only [Int32.le_iff_toInt_le, Int32.lt_iff_toInt_lt, z_eq, z_in, nI_toInt, z_cl, z_m1, z_sg, z_255, Int32.reduceToInt] <;> omega) | (simp only [Int32.le_iff_toInt_le, Int32.lt_iff_toInt_lt, z_eq, z_in, z_add, z_sub, z_mul, z_neg, z_nI, z_cl, z_sg, z_255, z_lit, Int32.reduceToInt] <;> omega))) (k_defOf hw hR S.1.1 hf (by omega) rk ?_)
      have g17 : dG F (nI (tpR F leaf (R.getD k 0))) ≤ 128 := upS_le (wDef1 _)
      generalize hG : dG F (nI (tpR F leaf (R.getD k 0))) = G at *
      have bad : (D.getD k 0 < G ∨ D.getD (k - 1) 0 < G) → ∀ l4 l5 l6, j_Opn_checkOrder_101 post Q 96 (nI leaf) (nI m) (nI k) l4 l5 l6 104 x := fun h l4 l5 l6 => by
        unfold j_Opn_checkOrder_101 j_Opn_checkOrder_102
        exact r_ck0 20 S (by decide) (by decide) (fun z z1 z2 => nx z _ z1 (Or.inl ⟨z2, k, ck, k0, c0, by rw [hG]; exact h⟩))
      refine nm_r (e' := nI (E + k)) (by rw [show (97 : Nat) = stC 96 0 from rfl]; exact by rw [show fI x (stC 96 0) 4 = nI E from hE, nI_add]) ⟨by rw [L84]; exact vp_in_nI (by omega) (by decide), ?_⟩
      rw [show (1 : Int32) = nI 1 from rfl, nI_sub (by omega), rA_nI (by omega), rA_nI (by omega), e2, show E + k - 1 = E + (k - 1) by omega, e3]
      by_cases c1 : D.getD k 0 < G
      · exact br_t (by (first | omega | (simp (disch := omega) only [Int32.le_iff_toInt_le, Int32.lt_iff_toInt_lt, z_eq, z_in, nI_toInt, z_cl, z_m1, z_sg, z_255, Int32.reduceToInt] <;> omega) | (simp only [Int32.le_iff_toInt_le, Int32.lt_iff_toInt_lt, z_eq, z_in, z_add, z_sub, z_mul, z_neg, z_nI, z_cl, z_sg, z_255, z_lit, Int32.reduceToInt] <;> omega))) (bad (Or.inl c1) _ _ _)
      · refine br_f (by (first | omega | (simp (disch := omega) only [Int32.le_iff_toInt_le, Int32.lt_iff_toInt_lt, z_eq, z_in, nI_toInt, z_cl, z_m1, z_sg, z_255, Int32.reduceToInt] <;> omega) | (simp only [Int32.le_iff_toInt_le, Int32.lt_iff_toInt_lt, z_eq, z_in, z_add, z_sub, z_mul, z_neg, z_nI, z_cl, z_sg, z_255, z_lit, Int32.reduceToInt] <;> omega))) ⟨by rw [L84]; exact vp_in_nI (by omega) (by decide), ?_⟩
        by_cases c2 : D.getD (k - 1) 0 < G
        · exact br_t (by (first | omega | (simp (disch := omega) only [Int32.le_iff_toInt_le, Int32.lt_iff_toInt_lt, z_eq, z_in, nI_toInt, z_cl, z_m1, z_sg, z_255, Int32.reduceToInt] <;> omega) | (simp only [Int32.le_iff_toInt_le, Int32.lt_iff_toInt_lt, z_eq, z_in, z_add, z_sub, z_mul, z_neg, z_nI, z_cl, z_sg, z_255, z_lit, Int32.reduceToInt] <;> omega))) (bad (Or.inr c2) _ _ _)
        · refine br_f (by (first | omega | (simp (disch := omega) only [Int32.le_iff_toInt_le, Int32.lt_iff_toInt_lt, z_eq, z_in, nI_toInt, z_cl, z_m1, z_sg, z_255, Int32.reduceToInt] <;> omega) | (simp only [Int32.le_iff_toInt_le, Int32.lt_iff_toInt_lt, z_eq, z_in, z_add, z_sub, z_mul, z_neg, z_nI, z_cl, z_sg, z_255, z_lit, Int32.reduceToInt] <;> omega))) ?_
          unfold j_Opn_checkOrder_102
          exact k_ck1 (nx x _ (Fg.refl x) (Or.inr ⟨rfl, fun z => by have z := z.2; rw [hG] at z; omega⟩))
  · refine br_t (by (first | omega | (simp (disch := omega) only [Int32.le_iff_toInt_le, Int32.lt_iff_toInt_lt, z_eq, z_in, nI_toInt, z_cl, z_m1, z_sg, z_255, Int32.reduceToInt] <;> omega) | (simp only [Int32.le_iff_toInt_le, Int32.lt_iff_toInt_lt, z_eq, z_in, z_add, z_sub, z_mul, z_neg, z_nI, z_cl, z_sg, z_255, z_lit, Int32.reduceToInt] <;> omega))) (pk (fun z => ?_))
    obtain ⟨j, j1, j2, j3⟩ := z
    exact y3 j (by omega) j2 j3
theorem k_cmp {post : Int32 → St → Prop} {ty : Nat} {v w : Int64} {pv qv : PV} (hL : LC x) (hb : b ≤ 120255) (hty : ty < 4) (hv : RfP x b ty v pv) (hw : RfP x b ty w qv) (k : post (cmpV ty pv qv) x) : wp_Vlt_compare post 97 (nI ty) v w x := by
  unfold wp_Vlt_compare
  exact c_compare (r := 82) hty (hv.c hL hb) (hw.c hL hb) k
theorem k_bnd0 {post : St → Prop} {ty pg : Int32} (h0 : ¬ fI x 104 3 = 0) (q : post x) : wp_Opn_checkBounds post 96 ty pg x := by
  unfold wp_Opn_checkBounds
  exact ⟨fun _ => q, fun _ => br_f h0 q⟩
theorem k_ckB {post : St → Prop} {ty pg : Nat} {P : List PV} {lo hi : PV} (S : Sr 104 x T n p st) (hty : ty < 4) (hpg : pg < 6000) (hb : b ≤ 120255) (hm : P.length ≤ 1000) (hv : fI x 96 9 = nI P.length) (hP : VsC x 101 0 b ty P) (hok : ∀ v, v ∈ P → okPv ty v) (hlo : P.length ≠ 0 → RfP x b ty (fL x 92 pg) lo ∧ RfP x b ty (fL x 93 pg) hi) (holo : P.length ≠ 0 → okVv ty lo ∧ okVv ty hi)
    (pe : ∀ e y, (P.length ≠ 0 ∧ kv ty (pvd P (mnF ty P (P.length - 1))) ≠ kv ty lo ∧ e = 11 ∨ P.length ≠ 0 ∧ kv ty (pvd P (mnF ty P (P.length - 1))) = kv ty lo ∧ kv ty (pvd P (mxF ty P (P.length - 1))) ≠ kv ty hi ∧ e = 12) → FrSr 104 x y → FlC 104 y e → post y)
    (pk : (¬ (P.length ≠ 0 ∧ kv ty (pvd P (mnF ty P (P.length - 1))) ≠ kv ty lo)) → (¬ (P.length ≠ 0 ∧ kv ty (pvd P (mxF ty P (P.length - 1))) ≠ kv ty hi)) → post x) : wp_Opn_checkBounds post 96 (nI ty) (nI pg) x := by
  have L101 : fN x 101 = 2000 := S.1.1 101 (by decide)
  have L92 : fN x 92 = 6000 := S.1.1 92 (by decide)
  have L93 : fN x 93 = 6000 := S.1.1 93 (by decide)
  unfold wp_Opn_checkBounds
  rw [hv, show stC 96 2 = 104 from rfl, show stC 96 8 = 101 from rfl]
  by_cases c0 : P.length = 0
  · exact br_t (by rw [c0]; rfl) (pk (fun z => z.1 c0) (fun z => z.1 c0))
  refine br_f (fun z => c0 (nI_inj (b := 0) (by omega) (by decide) z)) (br_t S.h0 ?_)
  obtain ⟨hlo, hhi⟩ := hlo c0
  obtain ⟨olo, ohi⟩ := holo c0
  have oP : ∀ k, k < P.length → okVv ty (pvd P k) := fun k hk z => ((hok _ (pvd_mem hk)).1 z).1
  have vP : ∀ k, k < P.length → RfP x b ty (fL x 101 k) (pvd P k) := fun k hk => by have := hP k hk; rw [Nat.zero_add] at this; exact this
  rw [show (0 : Int32) = nI 0 from rfl, rL_nI (by decide), L101]
  refine ⟨vp_in_nI (by decide) (by decide), nm_e ⟨vp_in_nI (by decide) (by decide), nm_e ?_⟩⟩
  refine lp_Opn_checkBounds_36 (fun a0 a1 a2 a3 a4 a5 y => 96 = a0 ∧ nI ty = a1 ∧ nI pg = a2 ∧ x = y ∧ ∃ k, nI (k + 1) = a5 ∧ k + 1 ≤ P.length ∧ fL x 101 (mnF ty P k) = a3 ∧ fL x 101 (mxF ty P k) = a4) (fun _ _ _ _ _ a5 _ => P.length - a5.toNatClampNeg) ?_ _ _ _ _ _ _ _ ⟨rfl, rfl, rfl, rfl, 0, rfl, by omega, rfl, rfl⟩
  rintro Q a0 a1 a2 a3 a4 a5 y ⟨rfl, rfl, rfl, rfl, k, rfl, k1, rfl, rfl⟩ ih
  have m1 := mnF_le (ty := ty) (P := P) k
  have m2 := mxF_le (ty := ty) (P := P) k
  unfold j_Opn_checkBounds_36
  rw [hv, show stC (stC 96 0) 16 = 92 from rfl, show stC 96 0 = 97 from rfl, show stC 96 2 = 104 from rfl, show stC 96 8 = 101 from rfl, L101, L92]
  by_cases c : k + 1 < P.length
  · refine br_f (by (first | omega | (simp (disch := omega) only [Int32.le_iff_toInt_le, Int32.lt_iff_toInt_lt, z_eq, z_in, nI_toInt, z_cl, z_m1, z_sg, z_255, Int32.reduceToInt] <;> omega) | (simp only [Int32.le_iff_toInt_le, Int32.lt_iff_toInt_lt, z_eq, z_in, z_add, z_sub, z_mul, z_neg, z_nI, z_cl, z_sg, z_255, z_lit, Int32.reduceToInt] <;> omega))) ⟨vp_in_nI (by omega) (by decide), ?_⟩
    rw [rL_nI (by omega)]
    refine k_cmp S.1.1 hb hty (vP _ c) (vP _ (by omega)) ?_
    have go : ∀ l3, fL x 101 (mnF ty P (k + 1)) = l3 → j_Opn_checkBounds_72 post Q 96 (nI ty) (nI pg) l3 (fL x 101 (mxF ty P k)) (nI (k + 1)) x := fun l3 h3 => by
      unfold j_Opn_checkBounds_72 j_Opn_checkBounds_101
      rw [show stC 96 0 = 97 from rfl, show stC 96 8 = 101 from rfl, L101]
      refine ⟨vp_in_nI (by omega) (by decide), ?_⟩
      rw [rL_nI (by omega)]
      refine k_cmp S.1.1 hb hty (vP _ c) (vP _ (by omega)) ?_
      rw [nI_1]
      by_cases e : 0 < cmpV ty (pvd P (k + 1)) (pvd P (mxF ty P k))
      · refine br_f (by rw [Int32.le_iff_toInt_le]; rw [Int32.lt_iff_toInt_lt] at e; show ¬ (cmpV ty (pvd P (k + 1)) (pvd P (mxF ty P k))).toInt ≤ _; omega) ⟨vp_in_nI (by omega) (by omega), nm_e ?_⟩
        refine ih _ _ _ _ _ _ _ ⟨rfl, rfl, rfl, rfl, k + 1, rfl, by omega, h3, ?_⟩ (by rw [nI_clamp (by omega), nI_clamp (by omega)]; omega)
        simp only [mxF]
        rw [if_pos e, rL_nI (by omega)]
      · refine br_t (by rw [Int32.le_iff_toInt_le]; rw [Int32.lt_iff_toInt_lt] at e; show (cmpV ty (pvd P (k + 1)) (pvd P (mxF ty P k))).toInt ≤ _; omega) ?_
        refine ih _ _ _ _ _ _ _ ⟨rfl, rfl, rfl, rfl, k + 1, rfl, by omega, h3, ?_⟩ (by rw [nI_clamp (by omega), nI_clamp (by omega)]; omega)
        simp only [mxF]
        rw [if_neg e]
    by_cases e : cmpV ty (pvd P (k + 1)) (pvd P (mnF ty P k)) < 0
    · refine br_f (by rw [Int32.le_iff_toInt_le]; rw [Int32.lt_iff_toInt_lt] at e; show ¬ _ ≤ (cmpV ty (pvd P (k + 1)) (pvd P (mnF ty P k))).toInt; omega) ⟨vp_in_nI (by omega) (by omega), nm_e (go _ ?_)⟩
      simp only [mnF]
      rw [if_pos e, rL_nI (by omega)]
    · refine br_t (by rw [Int32.le_iff_toInt_le]; rw [Int32.lt_iff_toInt_lt] at e; show _ ≤ (cmpV ty (pvd P (k + 1)) (pvd P (mnF ty P k))).toInt; omega) (go _ ?_)
      simp only [mnF]
      rw [if_neg e]
  · have ek : P.length - 1 = k := by omega
    rw [ek] at pe pk
    refine br_t (by (first | omega | (simp (disch := omega) only [Int32.le_iff_toInt_le, Int32.lt_iff_toInt_lt, z_eq, z_in, nI_toInt, z_cl, z_m1, z_sg, z_255, Int32.reduceToInt] <;> omega) | (simp only [Int32.le_iff_toInt_le, Int32.lt_iff_toInt_lt, z_eq, z_in, z_add, z_sub, z_mul, z_neg, z_nI, z_cl, z_sg, z_255, z_lit, Int32.reduceToInt] <;> omega))) ⟨vp_in_nI hpg (by decide), ?_⟩
    rw [rL_nI (by omega)]
    refine k_cmp S.1.1 hb hty (vP _ (by omega)) hlo ?_
    have t2 : ∀ y, FrSr 104 x y → ((FlC 104 y 11 ∧ kv ty (pvd P (mnF ty P k)) ≠ kv ty lo) ∨ x = y ∧ kv ty (pvd P (mnF ty P k)) = kv ty lo) → (vp_in (nI pg) (fN y (stC (stC 96 0) 17)) ∧ wp_Vlt_compare (fun (r4 : Int32) (x3 : St) => ((¬ r4 = 0 → j_Opn_checkBounds_173 post 96 (nI ty) (nI pg) (fL x 101 (mnF ty P k)) (fL x 101 (mxF ty P k)) (nI (k + 1)) 0 (stC 96 2) x3) ∧ (r4 = 0 → j_Opn_checkBounds_173 post 96 (nI ty) (nI pg) (fL x 101 (mnF ty P k)) (fL x 101 (mxF ty P k)) (nI (k + 1)) 1 (stC 96 2) x3))) (stC 96 0) (nI ty) (fL x 101 (mxF ty P k)) (rL y (stC (stC 96 0) 17) (nI pg)) y) := fun y y1 y2 => by
      unfold j_Opn_checkBounds_173
      rw [show stC (stC 96 0) 17 = 93 from rfl, y1.len, L93, rL_nI (by omega), y1.ll id]
      refine ⟨vp_in_nI hpg (by decide), k_cmp (Fg.fic y1 id S.1).1 hb hty ((vP (mxF ty P k) (by omega)).same (y1.aa id)) (hhi.same (y1.aa id)) ?_⟩
      rcases y2 with ⟨f1, f2⟩ | ⟨rfl, f2⟩
      · exact ⟨fun _ => k_ckf f1.ne (pe 11 y (Or.inl ⟨c0, f2, rfl⟩) y1 f1), fun _ => k_ckf f1.ne (pe 11 y (Or.inl ⟨c0, f2, rfl⟩) y1 f1)⟩
      · by_cases ch : kv ty (pvd P (mxF ty P k)) = kv ty hi
        · exact bn_t ((cmpV_0 (oP _ (by omega)) ohi).mpr ch) (k_ck1 (pk (fun z => z.2 f2) (fun z => z.2 ch)))
        · exact bn_f (fun z => ch ((cmpV_0 (oP _ (by omega)) ohi).mp z)) (r_ck0 12 S (by decide) (by decide) (fun z z1 z2 => pe 12 z (Or.inr ⟨c0, f2, ch, rfl⟩) z1 z2))
    unfold j_Opn_checkBounds_137
    by_cases cl : kv ty (pvd P (mnF ty P k)) = kv ty lo
    · exact bn_t ((cmpV_0 (oP _ (by omega)) olo).mpr cl) (k_ck1 (t2 x (Fg.refl x) (Or.inr ⟨rfl, cl⟩)))
    · exact bn_f (fun z => cl ((cmpV_0 (oP _ (by omega)) olo).mp z)) (r_ck0 11 S (by decide) (by decide) (fun y y1 y2 => t2 y y1 (Or.inl ⟨y2, cl⟩)))
end
