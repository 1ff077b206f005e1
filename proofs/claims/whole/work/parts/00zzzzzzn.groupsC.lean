/-! RUNS, class: GROUPS, and all of them -/
def exB (T : Nat → Nat) (p w c i : Nat) : Prop := ∃ j, j < i ∧ c ≤ j ∧ bsN T p (w * j) w ≠ 0
def exP (T : Nat → Nat) (p w f last c : Nat) : Prop := ∃ k, k < c ∧ last ≤ f + k ∧ bsN T p (w * k) w ≠ 0
section
variable {x : St} {T : Nat → Nat} {n st p o : Nat}
theorem k_grps8 {post : Int32 → St → Prop} {r k m w g : Nat} (ho : SrO o) (S : Sr o x T n p st) (hw : w ≤ 32) (hk : k < m) (hm : m ≤ fN x r) (hr : fN x r ≤ 2 ^ 20) (hg : g ≤ (m - k + 7) / 8)
    (pe : ∀ e y, (st < p + g * w ∧ e = 1 ∨ ¬ st < p + g * w ∧ (∃ j, j < 8 * g ∧ m - k ≤ j ∧ bsN T p (w * j) w ≠ 0) ∧ e = 5) → FrSL o r x y → FlC o y e → ∀ v, k ≤ v → v ≤ m → post (nI v) y)
    (pk : ¬ st < p + g * w → ¬ exB T p w (m - k) (8 * g) → ∀ y, FrSL o r x y → Sr o y T n (p + g * w) st → (∀ i, fL y r i = if k ≤ i ∧ i < k + min (8 * g) (m - k) then lN (bsN T p (w * (i - k)) w) else fL x r i) → post (nI (k + min (8 * g) (m - k))) y) : wp_Src_readGroups post o r (nI k) (lN g) (nI m) (nI w) x := by
  have hS := S.le
  have gw : g * w ≤ g * 32 := Nat.mul_le_mul_left _ hw
  unfold wp_Src_readGroups
  refine ⟨fun z => absurd S.h0 z, fun _ => ?_⟩
  rw [show (nI w).toInt64 = lN w from nI_l (by omega), lN_mul]
  refine r_has (by omega) S (fun y c y1 y2 => ?_) (fun c => ?_)
  · unfold j_Src_readGroups_19
    exact bn_t rfl (pe 1 y (Or.inl ⟨c, rfl⟩) (FrSr.sl y1) y2 k (Nat.le_refl _) (by omega))
  · refine bn_f (by decide) ?_
    rw [show (lN g).toInt32 * 8 = nI (8 * g) from by rw [lN_i, show (8 : Int32) = nI 8 from rfl, nI_mul, Nat.mul_comm]]
    refine nm_e ?_
    refine lp_Src_readGroups_31 (fun a0 a1 a2 a3 a4 a5 a6 a7 y => o = a0 ∧ r = a1 ∧ nI k = a2 ∧ lN g = a3 ∧ nI m = a4 ∧ nI w = a5 ∧ nI (8 * g) = a6 ∧ ∃ i, nI i = a7 ∧ i ≤ 8 * g ∧ FrSL o r x y ∧ fI y o 1 = nI p ∧ (fI y o 3 = 0 ∧ ¬ exB T p w (m - k) (i) ∨ FlC o y 5 ∧ exB T p w (m - k) (i)) ∧ ∀ j, fL y r j = if k ≤ j ∧ j < k + min i (m - k) then lN (bsN T p (w * (j - k)) w) else fL x r j) (fun _ _ _ _ _ _ _ a7 _ => 8 * g - a7.toNatClampNeg) ?_ _ _ _ _ _ _ _ _ _ ⟨rfl, rfl, rfl, rfl, rfl, rfl, rfl, 0, rfl, Nat.zero_le _, Fg.refl x, S.hp, Or.inl ⟨S.h0, fun z => by obtain ⟨j, j1, -⟩ := z; omega⟩, fun j => by rw [if_neg (by omega)]⟩
    rintro Q a0 a1 a2 a3 a4 a5 a6 a7 y ⟨rfl, rfl, rfl, rfl, rfl, rfl, rfl, i, rfl, i1, y1, y2, y3, y4⟩ ih
    have Fy := Fg.fic y1 id S.1
    have nr : fN y r = fN x r := by show y.2.2.2.2.2 r = _; rw [y1.2.2.2.2.2]
    unfold j_Src_readGroups_31
    by_cases ci : i < 8 * g
    · refine br_f (by (first | omega | (simp (disch := omega) only [Int32.le_iff_toInt_le, Int32.lt_iff_toInt_lt, z_eq, z_in, nI_toInt, z_cl, z_m1, z_sg, z_255, Int32.reduceToInt] <;> omega) | (simp only [Int32.le_iff_toInt_le, Int32.lt_iff_toInt_lt, z_eq, z_in, z_add, z_sub, z_mul, z_neg, z_nI, z_cl, z_sg, z_255, z_lit, Int32.reduceToInt] <;> omega))) ?_
      rw [nI_mul, Nat.mul_comm i w, nI_add]
      have wi : w * i ≤ 32 * i := Nat.mul_le_mul_right _ hw
      have wb : w * i + w ≤ 8 * (g * w) := by
        have : (i + 1) * w ≤ 8 * g * w := Nat.mul_le_mul_right _ ci
        rw [Nat.succ_mul, Nat.mul_comm i w, Nat.mul_assoc] at this
        exact this
      refine k_bitsAt ho Fy y2 (by omega) (by omega) (by omega) (fun j hj => ?_) ?_
      · have : (w * i + j) / 8 < g * w := Nat.div_lt_of_lt_mul (by omega)
        omega
      · have nx : ∀ z, FrSL o r x z → fI z o 1 = nI p → (fI z o 3 = 0 ∧ ¬ exB T p w (m - k) (i + 1) ∨ FlC o z 5 ∧ exB T p w (m - k) (i + 1)) → (∀ j, fL z r j = if k ≤ j ∧ j < k + min (i + 1) (m - k) then lN (bsN T p (w * (j - k)) w) else fL x r j) → j_Src_readGroups_88 post Q o r (nI k) (lN g) (nI m) (nI w) (nI (8 * g)) (nI i) (lN (bsN T p (w * i) w)) z := fun z z1 z2 z3 z4 => by
          unfold j_Src_readGroups_88
          rw [nI_1]
          exact ih _ _ _ _ _ _ _ _ _ ⟨rfl, rfl, rfl, rfl, rfl, rfl, rfl, i + 1, rfl, ci, z1, z2, z3, z4⟩ (by rw [nI_clamp (by omega), nI_clamp (by omega)]; omega)
        have keep3 : (m - k ≤ i → bsN T p (w * i) w = 0) → (fI y o 3 = 0 ∧ ¬ exB T p w (m - k) (i + 1) ∨ FlC o y 5 ∧ exB T p w (m - k) (i + 1)) := fun hz => by
          rcases y3 with ⟨q1, q2⟩ | ⟨q1, j, q2, q3, q4⟩
          · refine Or.inl ⟨q1, fun z => ?_⟩
            obtain ⟨j, j1, j2, j3⟩ := z
            by_cases ej : j = i
            · rw [ej] at j2 j3; exact j3 (hz j2)
            · exact q2 ⟨j, by omega, j2, j3⟩
          · exact Or.inr ⟨q1, j, by omega, q3, q4⟩
        by_cases cm : m ≤ k + i
        · refine br_t (by (first | omega | (simp (disch := omega) only [Int32.le_iff_toInt_le, Int32.lt_iff_toInt_lt, z_eq, z_in, nI_toInt, z_cl, z_m1, z_sg, z_255, Int32.reduceToInt] <;> omega) | (simp only [Int32.le_iff_toInt_le, Int32.lt_iff_toInt_lt, z_eq, z_in, z_add, z_sub, z_mul, z_neg, z_nI, z_cl, z_sg, z_255, z_lit, Int32.reduceToInt] <;> omega))) ?_
          have same : ∀ j, fL y r j = if k ≤ j ∧ j < k + min (i + 1) (m - k) then lN (bsN T p (w * (j - k)) w) else fL x r j := fun j => by
            rw [y4 j, show min (i + 1) (m - k) = min i (m - k) by omega]
          have bl := bsN_lt (T := T) (p := p) (m := w * i) w
          have b32 : 2 ^ w ≤ 2 ^ 32 := Nat.pow_le_pow_right (by decide) hw
          unfold j_Src_readGroups_84
          by_cases cz : bsN T p (w * i) w = 0
          · refine bn_t ((lg_cmp_eq _ _).mpr (by rw [cz]; rfl)) (k_ck1 (nx y y1 y2 (keep3 (fun _ => cz)) same))
          · refine bn_f (fun z => cz ((lN0 (by omega)).mp ((lg_cmp_eq _ _).mp z))) ?_
            rcases y3 with ⟨q1, q2⟩ | ⟨q1, q2⟩
            · refine k_ck0 q1 (nx _ (Fg.trans y1 (Fg.i ⟨rfl, by decide⟩)) ((gI_ne (by decide)).trans y2) (Or.inr ⟨⟨gI_at, by decide, by decide⟩, i, by omega, by omega, cz⟩) same)
            · exact k_ckf q1.ne (nx y y1 y2 (Or.inr ⟨q1, i, by omega, by omega, cz⟩) same)
        · refine br_f (by (first | omega | (simp (disch := omega) only [Int32.le_iff_toInt_le, Int32.lt_iff_toInt_lt, z_eq, z_in, nI_toInt, z_cl, z_m1, z_sg, z_255, Int32.reduceToInt] <;> omega) | (simp only [Int32.le_iff_toInt_le, Int32.lt_iff_toInt_lt, z_eq, z_in, z_add, z_sub, z_mul, z_neg, z_nI, z_cl, z_sg, z_255, z_lit, Int32.reduceToInt] <;> omega))) ⟨vp_in_nI (by omega) (by omega), nm_e ?_⟩
          refine nx _ (Fg.trans y1 (Fg.l rfl)) y2 (keep3 (fun z => by omega)) (fun j => ?_)
          rw [gL_at, nI_clamp (by omega)]
          by_cases e : j = k + i
          · rw [e, updL_at, if_pos (by omega), show k + i - k = i by omega]
          · rw [updL_ne (by omega), y4 j]
            by_cases e2 : k ≤ j ∧ j < k + min i (m - k)
            · rw [if_pos e2, if_pos (by omega)]
            · rw [if_neg e2, if_neg (by omega)]
    · have e : i = 8 * g := by omega
      subst e
      refine br_t (by (first | omega | (simp (disch := omega) only [Int32.le_iff_toInt_le, Int32.lt_iff_toInt_lt, z_eq, z_in, nI_toInt, z_cl, z_m1, z_sg, z_255, Int32.reduceToInt] <;> omega) | (simp only [Int32.le_iff_toInt_le, Int32.lt_iff_toInt_lt, z_eq, z_in, z_add, z_sub, z_mul, z_neg, z_nI, z_cl, z_sg, z_255, z_lit, Int32.reduceToInt] <;> omega))) ?_
      rw [lN_i, nI_mul, y2, nI_add, nI_add, nI_min (by omega) (by omega)]
      refine nm_e ?_
      rcases y3 with ⟨q1, q2⟩ | ⟨q1, q2⟩
      · have fz : FrSL o r x (setI y o 1 (nI (p + g * w))) := Fg.trans y1 (Fg.i ⟨rfl, by decide⟩)
        have := pk (by omega) q2 _ fz (S.mv fz id (fun z => absurd z.2 (by decide)) gI_at ((gI_ne (by decide)).trans q1) (by omega)) (fun j => y4 j)
        rw [show k + min (8 * g) (m - k) = min m (k + 8 * g) by omega] at this
        exact this
      · exact pe 5 _ (Or.inr ⟨by omega, q2, rfl⟩) (Fg.trans y1 (Fg.i ⟨rfl, by decide⟩)) ⟨(gI_ne (by decide)).trans q1.1, q1.2⟩ _ (by omega) (by omega)
theorem k_rns0 {post : St → Prop} {r : Nat} {m w : Int32} (h0 : ¬ fI x o 3 = 0) (q : post x) : wp_Src_readRuns post o r m w x := ⟨1, by
  unfold wl_Src_readRuns_6 j_Src_readRuns_6
  exact ⟨fun _ => q, fun _ => ⟨fun _ => q, fun _ => ⟨fun _ => q, fun z => absurd z h0⟩⟩⟩⟩
theorem k_rns {post : St → Prop} {r m w : Nat} (ho : SrO o) (S : Sr o x T n p st) (hw : w ≤ 32) (hm : m ≤ fN x r) (hr : fN x r ≤ 2 ^ 20)
    (pe : ∀ e y, rns T m w st p = .error e → FrSL o r x y → FlC o y e → post y)
    (pk : ∀ L q y, rns T m w st p = .ok (L, q) → FrSL o r x y → Sr o y T n q st → (∀ i, i < m → fL y r i = lN (L.getD i 0)) → post y) : wp_Src_readRuns post o r (nI m) (nI w) x := by
  unfold wp_Src_readRuns
  refine lp_Src_readRuns_6 (fun a0 a1 a2 a3 a4 a5 y => o = a0 ∧ r = a1 ∧ nI m = a2 ∧ nI w = a3 ∧ FrSL o r x y ∧ ∃ kk gu, nI kk = a4 ∧ nI gu = a5 ∧ kk ≤ m ∧ gu ≤ m ∧ ((∃ e, FlC o y e ∧ rns T m w st p = .error e) ∨ ∃ acc q, acc.length = kk ∧ gu ≤ kk ∧ Sr o y T n q st ∧ rns T m w st p = rnF T w st m (m - acc.length) acc q ∧ ∀ i, i < acc.length → fL y r i = lN (acc.getD i 0))) (fun _ _ _ _ _ a5 y => m - a5.toNatClampNeg) ?_ _ _ _ _ _ _ _ ⟨rfl, rfl, rfl, rfl, Fg.refl x, 0, 0, rfl, rfl, Nat.zero_le _, Nat.zero_le _, Or.inr ⟨[], p, rfl, Nat.le_refl _, S, rfl, fun i hi => absurd hi (Nat.not_lt_zero _)⟩⟩
  rintro Q a0 a1 a2 a3 a4 a5 y ⟨rfl, rfl, rfl, rfl, y1, kk, gu, rfl, rfl, k1, g1, y2⟩ ih
  unfold j_Src_readRuns_6
  rcases y2 with ⟨e, q1, q2⟩ | ⟨acc, q, q0, q1, q3, q4, q5⟩
  · have := pe e y q2 y1 q1
    exact ⟨fun _ => this, fun _ => ⟨fun _ => this, fun _ => ⟨fun _ => this, fun z => absurd z q1.ne⟩⟩⟩
  · have hS := q3.le
    by_cases c : m ≤ kk
    · have el : acc.length = m := by omega
      have er : rns T m w st p = .ok (acc, q) := by rw [q4, el, Nat.sub_self]; rfl
      have := pk acc q y er y1 q3 (fun i hi => q5 i (by omega))
      exact ⟨fun _ => this, fun _ => ⟨fun _ => this, fun z => absurd (show nI m ≤ nI kk by (first | omega | (simp (disch := omega) only [Int32.le_iff_toInt_le, Int32.lt_iff_toInt_lt, z_eq, z_in, nI_toInt, z_cl, z_m1, z_sg, z_255, Int32.reduceToInt] <;> omega) | (simp only [Int32.le_iff_toInt_le, Int32.lt_iff_toInt_lt, z_eq, z_in, z_add, z_sub, z_mul, z_neg, z_nI, z_cl, z_sg, z_255, z_lit, Int32.reduceToInt] <;> omega))) z⟩⟩
    · refine br_f (by (first | omega | (simp (disch := omega) only [Int32.le_iff_toInt_le, Int32.lt_iff_toInt_lt, z_eq, z_in, nI_toInt, z_cl, z_m1, z_sg, z_255, Int32.reduceToInt] <;> omega) | (simp only [Int32.le_iff_toInt_le, Int32.lt_iff_toInt_lt, z_eq, z_in, z_add, z_sub, z_mul, z_neg, z_nI, z_cl, z_sg, z_255, z_lit, Int32.reduceToInt] <;> omega))) (br_f (by (first | omega | (simp (disch := omega) only [Int32.le_iff_toInt_le, Int32.lt_iff_toInt_lt, z_eq, z_in, nI_toInt, z_cl, z_m1, z_sg, z_255, Int32.reduceToInt] <;> omega) | (simp only [Int32.le_iff_toInt_le, Int32.lt_iff_toInt_lt, z_eq, z_in, z_add, z_sub, z_mul, z_neg, z_nI, z_cl, z_sg, z_255, z_lit, Int32.reduceToInt] <;> omega))) (bn_t q3.h0 ?_))
      have nr : fN y r = fN x r := by show y.2.2.2.2.2 r = _; rw [y1.2.2.2.2.2]
      obtain ⟨d, hd⟩ : ∃ d, m - acc.length = d + 1 := ⟨m - acc.length - 1, by omega⟩
      have er : rns T m w st p = rnF T w st m (d + 1) acc q := by rw [q4, hd]
      have go : ∀ (z : St) (v : Nat) l6 l8, FrSL o r x z → v ≤ m → ((∃ e, FlC o z e ∧ rns T m w st p = .error e) ∨ kk < v ∧ ∃ acc q, acc.length = v ∧ Sr o z T n q st ∧ rns T m w st p = rnF T w st m (m - acc.length) acc q ∧ ∀ i, i < acc.length → fL z r i = lN (acc.getD i 0)) → j_Src_readRuns_140 post Q o r (nI m) (nI w) (nI v) (nI gu) l6 l8 z := fun z v l6 l8 z1 z2 z3 => by
        unfold j_Src_readRuns_140
        rw [nI_1]
        refine ih _ _ _ _ _ _ _ ⟨rfl, rfl, rfl, rfl, z1, v, gu + 1, rfl, rfl, z2, by omega, ?_⟩ (by rw [nI_clamp (by omega), nI_clamp (by omega)]; omega)
        rcases z3 with z3 | ⟨z4, acc', q', w1, w2, w3⟩
        · exact Or.inl z3
        · exact Or.inr ⟨acc', q', w1, by omega, w2, w3⟩
      refine r_vrd ho q3 (fun e z z1 z2 z3 => ?_) (fun h q' z z1 z2 Sz v1 v2 => ?_)
      · have er2 : rns T m w st p = .error e := by
          rw [er]
          simp only [rnF]
          rw [if_neg (by omega), z1]
        have gg : ∀ v8 l8, j_Src_readRuns_50 post Q o r (nI m) (nI w) (nI kk) (nI gu) 0 l8 v8 o z := fun v8 l8 => by
          have g2 := go z kk 0 l8 (Fg.trans y1 (FrSr.sl z2)) k1 (Or.inl ⟨e, z3, er2⟩)
          unfold j_Src_readRuns_50 j_Src_readRuns_123 j_Src_readRuns_80
          refine k_ckf z3.ne ⟨fun _ => ⟨fun _ => k_ckf z3.ne (k_grps80 z3.ne g2), fun _ => k_ckf z3.ne (k_grps80 z3.ne g2)⟩, fun _ => ⟨fun _ => k_ckf z3.ne (k_same0 z3.ne g2), fun _ => k_ckf z3.ne (k_same0 z3.ne g2)⟩⟩
        exact fun v8 _ => ⟨fun _ => gg _ _, fun _ => gg _ _⟩
      · have zy : FrSL o r x z := Fg.trans y1 (FrSr.sl z2)
        have nz : fN z r = fN x r := by show z.2.2.2.2.2 r = _; rw [zy.2.2.2.2.2]
        have az : ∀ i, fL z r i = fL y r i := fun i => by show z.2.2.2.2.1 r i = _; rw [z2.2.2.2.2.1 r id]
        have rn : rns T m w st p = (if h / 2 = 0 then .error 3 else if h % 2 = 0 then
            (if m - acc.length < h / 2 then .error 4 else if st < q' + (w + 7) / 8 then .error 1 else if 2 ^ w ≤ fxV T q' ((w + 7) / 8) then .error 5 else rnF T w st m d (acc ++ List.replicate (h / 2) (fxV T q' ((w + 7) / 8))) (q' + (w + 7) / 8))
          else
            (if (m - acc.length + 7) / 8 < h / 2 then .error 4 else if st < q' + h / 2 * w then .error 1 else if ∃ j, j < 8 * (h / 2) ∧ m - acc.length ≤ j ∧ bsN T q' (w * j) w ≠ 0 then .error 5 else rnF T w st m d (acc ++ grL T q' w (min (8 * (h / 2)) (m - acc.length))) (q' + h / 2 * w))) := by
          rw [er]
          simp only [rnF]
          rw [if_neg (by omega), z1]
        refine nm_r (e' := lN (h / 2)) (wb_shr (k := 1) v1 (by decide)) ?_
        have h2 : h / 2 < 2 ^ 63 := by omega
        -- a fault found here: all that follows falls through
        have fall : ∀ e z', FrSL o r x z' → FlC o z' e → rns T m w st p = .error e → ((¬ (lg_cmp (lN h &&& 1) 0) = 0 → ((0 < (lg_cmp (lN (h / 2) - 1) ((((nI m - nI kk) - 1) / 8) : Int32).toInt64) → j_Src_readRuns_123 post Q o r (nI m) (nI w) (nI kk) (nI gu) (lN h) (lN (h / 2)) 0 o z') ∧ (¬ 0 < (lg_cmp (lN (h / 2) - 1) ((((nI m - nI kk) - 1) / 8) : Int32).toInt64) → j_Src_readRuns_123 post Q o r (nI m) (nI w) (nI kk) (nI gu) (lN h) (lN (h / 2)) 1 o z'))) ∧ ((lg_cmp (lN h &&& 1) 0) = 0 → ((0 < (lg_cmp (lN (h / 2)) ((nI m - nI kk) : Int32).toInt64) → j_Src_readRuns_80 post Q o r (nI m) (nI w) (nI kk) (nI gu) (lN h) (lN (h / 2)) 0 o z') ∧ (¬ 0 < (lg_cmp (lN (h / 2)) ((nI m - nI kk) : Int32).toInt64) → j_Src_readRuns_80 post Q o r (nI m) (nI w) (nI kk) (nI gu) (lN h) (lN (h / 2)) 1 o z')))) := fun e z' f1 f2 f3 => by
          have g2 : ∀ l6 l8, _ := fun l6 l8 => go z' kk l6 l8 f1 k1 (Or.inl ⟨e, f2, f3⟩)
          unfold j_Src_readRuns_123 j_Src_readRuns_80
          exact ⟨fun _ => ⟨fun _ => k_ckf f2.ne (k_grps80 f2.ne (g2 _ _)), fun _ => k_ckf f2.ne (k_grps80 f2.ne (g2 _ _))⟩, fun _ => ⟨fun _ => k_ckf f2.ne (k_same0 f2.ne (g2 _ _)), fun _ => k_ckf f2.ne (k_same0 f2.ne (g2 _ _))⟩⟩
        by_cases c0 : h / 2 = 0
        · refine br_t ((lg_cmp_le _ _).mpr (by rw [c0]; decide)) ?_
          unfold j_Src_readRuns_50
          refine r_ck0 3 Sz (by decide) (by decide) (fun z' f1 f2 => fall 3 z' (Fg.trans zy (FrSr.sl f1)) f2 (by rw [rn, if_pos c0]))
        · refine br_f (fun w => c0 ?_) ?_
          · have := (lg_cmp_le _ _).mp w
            rw [show (0 : Int64) = lN 0 from rfl, lN_le2 h2 (by decide)] at this
            omega
          rw [if_neg c0] at rn
          unfold j_Src_readRuns_50
          refine k_ck1 ?_
          rw [wb_a1 v1, nI_sub (by omega : kk ≤ m)]
          by_cases c1 : h % 2 = 0
          · rw [if_pos c1] at rn
            refine bn_t ((lg_cmp_eq _ _).mpr (by rw [c1]; rfl)) ?_
            rw [show (nI (m - kk)).toInt64 = lN (m - kk) from nI_l (by omega), lg_cmp_gt, lN_lt2 (by omega) h2]
            unfold j_Src_readRuns_80
            by_cases c2 : m - kk < h / 2
            · refine br_t c2 (r_ck0 4 Sz (by decide) (by decide) (fun z' f1 f2 => k_same0 f2.ne (go z' kk _ _ (Fg.trans zy (FrSr.sl f1)) k1 (Or.inl ⟨4, f2, ?_⟩))))
              rw [rn, if_pos (by omega)]
            · refine br_f c2 (k_ck1 ?_)
              rw [if_neg (by omega)] at rn
              refine k_same ho Sz hw (by omega) (by omega) (fun e u u1 u2 u3 => ?_) (fun u1 u2 u u4 u5 u6 => ?_)
              · refine go u kk _ _ (Fg.trans zy (FrSr.sl u2)) k1 (Or.inl ⟨e, u3, ?_⟩)
                rw [rn]
                rcases u1 with ⟨a, b⟩ | ⟨a, b, c'⟩
                · rw [if_pos a, b]
                · rw [if_neg a, if_pos b, c']
              · refine go u (kk + h / 2) _ _ (Fg.trans zy u4) (by omega) (Or.inr ⟨by omega, acc ++ List.replicate (h / 2) (fxV T q' ((w + 7) / 8)), q' + (w + 7) / 8, ?_, u5, ?_, fun i hi => ?_⟩)
                · rw [List.length_append, List.length_replicate, q0]
                · rw [rn, if_neg u1, if_neg u2]
                  exact rnF_fuel _ _ _ _ (by rw [List.length_append, List.length_replicate]; omega) (by rw [List.length_append, List.length_replicate]; omega)
                · rw [List.length_append, List.length_replicate] at hi
                  rw [u6 i]
                  by_cases ci : kk ≤ i
                  · rw [if_pos (by omega), getD_app2 (by omega), getD_rep (by omega)]
                  · rw [if_neg (by omega), az i, q5 i (by omega), getD_app1 (by omega)]
          · rw [if_neg c1] at rn
            refine bn_f (fun w => c1 ((lN0 (by omega)).mp ((lg_cmp_eq _ _).mp w))) ?_
            rw [show (nI (m - kk) - 1) / 8 = nI ((m - kk - 1) / 8) from by rw [show (1 : Int32) = nI 1 from rfl, nI_sub (by omega), show (8 : Int32) = nI 8 from rfl, nI_dv (by omega) (by decide) (by decide)], show lN (h / 2) - 1 = lN (h / 2 - 1) from lN_sub1 (by omega), show (nI ((m - kk - 1) / 8)).toInt64 = lN ((m - kk - 1) / 8) from nI_l (by omega), lg_cmp_gt, lN_lt2 (by omega) (by omega)]
            unfold j_Src_readRuns_123
            by_cases c2 : (m - kk - 1) / 8 < h / 2 - 1
            · refine br_t c2 (r_ck0 4 Sz (by decide) (by decide) (fun z' f1 f2 => k_grps80 f2.ne (go z' kk _ _ (Fg.trans zy (FrSr.sl f1)) k1 (Or.inl ⟨4, f2, ?_⟩))))
              rw [rn, if_pos (by omega)]
            · refine br_f c2 (k_ck1 ?_)
              rw [if_neg (by omega)] at rn
              refine k_grps8 ho Sz hw (by omega) (by omega) (by omega) (by omega) (fun e u u1 u2 u3 v w1 w2 => ?_) (fun u1 u2 u u4 u5 u6 => ?_)
              · refine go u v _ _ (Fg.trans zy u2) w2 (Or.inl ⟨e, u3, ?_⟩)
                rw [rn]
                rw [← q0] at u1
                rcases u1 with ⟨a, b⟩ | ⟨a, b, c'⟩
                · rw [if_pos a, b]
                · rw [if_neg a, if_pos b, c']
              · rw [← q0] at u2
                have u2 : ¬ ∃ j, j < 8 * (h / 2) ∧ m - acc.length ≤ j ∧ bsN T q' (w * j) w ≠ 0 := u2
                refine go u (kk + min (8 * (h / 2)) (m - kk)) _ _ (Fg.trans zy u4) (by omega) (Or.inr ⟨by omega, acc ++ grL T q' w (min (8 * (h / 2)) (m - acc.length)), q' + h / 2 * w, ?_, u5, ?_, fun i hi => ?_⟩)
                · rw [List.length_append, grL_len, q0]
                · rw [rn, if_neg u1, if_neg u2]
                  exact rnF_fuel _ _ _ _ (by rw [List.length_append, grL_len]; omega) (by rw [List.length_append, grL_len]; omega)
                · rw [List.length_append, grL_len] at hi
                  rw [u6 i]
                  by_cases ci : kk ≤ i
                  · rw [if_pos (by omega), getD_app2 (by omega), grL_at _ _ (by omega), q0]
                  · rw [if_neg (by omega), az i, q5 i (by omega), getD_app1 (by omega)]
end
