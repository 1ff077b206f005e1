/-! the model reads RUNS: GROUPS, and all of them -/
section
variable {x : St} {T : Nat → Nat} {n st p : Nat}
theorem s_readGroups {post : Int32 → St → Prop} {r k m w many : Nat} (hF : FiM x T n) (h0 : fI x 0 69 = 0) (hp : fI x 0 67 = nI p) (hps : p ≤ st) (hst : st ≤ n) (hr : r ≠ 41) (hw : w ≤ 32) (hk : k ≤ m) (hm : m ≤ fN x r) (hm2 : fN x r ≤ 2 ^ 20) (hmany : many < 2 ^ 63)
    (pe : ∀ e y, ((m - k + 7) / 8 < many ∧ e = 4 ∨ ¬ (m - k + 7) / 8 < many ∧ (st < p + many * w ∧ e = 1 ∨ ¬ st < p + many * w ∧ (∃ j, j < 8 * many ∧ m - k ≤ j ∧ bsN T p (w * j) w ≠ 0) ∧ e = 5)) → FrRw r x y → Flt y e → ∀ v, k ≤ v → v < 2 ^ 22 → post (nI v) y)
    (pk : ¬ (m - k + 7) / 8 < many → ¬ st < p + many * w → (¬ ∃ j, j < 8 * many ∧ m - k ≤ j ∧ bsN T p (w * j) w ≠ 0) → ∀ y, FrRw r x y → fI y 0 67 = nI (p + many * w) → fI y 0 69 = 0 → (∀ i, fA y r i = if k ≤ i ∧ i < k + min (8 * many) (m - k) then nI (bsN T p (w * (i - k)) w) else fA x r i) → post (nI (k + 8 * many)) y) : wp_Mod_readGroups post r (nI k) (nI m) (nI w) (nI st) (lN many) x := by
  have hn := hF.2.1
  have e41 : fN x 41 = 40000 := hF.1 41
  have hT := hF.2.2.1
  unfold wp_Mod_readGroups
  rw [hp, nI_sub hk, show (7 : Int32) = nI 7 from rfl, nI_add, show nI (m - k + 7) / 8 = nI ((m - k + 7) / 8) from by rw [show (8 : Int32) = nI 8 from rfl, nI_dv (by omega) (by decide) (by decide)], nI_sub hps, show (nI ((m - k + 7) / 8)).toInt64 = lN ((m - k + 7) / 8) from nI_l (by omega), show (nI (st - p)).toInt64 = lN (st - p) from nI_l (by omega), show (nI w).toInt64 = lN w from nI_l (by omega), lg_cmp_le, lN_le2 hmany (by omega)]
  have flt : ∀ e, 0 < e → e < 100 → ∀ (p' : ((m - k + 7) / 8 < many ∧ e = 4 ∨ ¬ (m - k + 7) / 8 < many ∧ (st < p + many * w ∧ e = 1 ∨ ¬ st < p + many * w ∧ (∃ j, j < 8 * many ∧ m - k ≤ j ∧ bsN T p (w * j) w ≠ 0) ∧ e = 5))), j_Mod_readGroups_47 post r (nI k) (nI m) (nI w) (nI st) (lN many) (setI x 0 69 (nI e)) := fun e e1 e2 p' => by
    have fl : Flt (setI x 0 69 (nI e)) e := ⟨gI_at, e1, e2⟩
    unfold j_Mod_readGroups_47
    exact ⟨fun z => absurd z fl.ne, fun _ => pe e _ p' (Fg.i ⟨rfl, by decide⟩) fl k (Nat.le_refl _) (by omega)⟩
  by_cases c1 : many ≤ (m - k + 7) / 8
  · refine br_t c1 ?_
    have mw : many * w ≤ many * 32 := Nat.mul_le_mul_left _ hw
    rw [lN_mul, lg_cmp_ge, lN_le2 (by omega) (by omega)]
    by_cases c2 : many * w ≤ st - p
    · refine br_t c2 ?_
      unfold j_Mod_readGroups_47
      refine ⟨fun _ => ?_, fun z => absurd h0 z⟩
      have e8 : (8 : Int64) * lN many = lN (8 * many) := by rw [show (8 : Int64) = lN 8 from rfl, lN_mul]
      refine lp_Mod_readGroups_59 (fun a0 a1 a2 a3 a4 a5 a6 y => r = a0 ∧ nI k = a1 ∧ nI m = a2 ∧ nI w = a3 ∧ nI st = a4 ∧ lN many = a5 ∧ ∃ i, nI i = a6 ∧ i ≤ 8 * many ∧ FrRw r x y ∧ fI y 0 67 = nI p ∧ (fI y 0 69 = 0 ∧ (¬ ∃ j, j < i ∧ m - k ≤ j ∧ bsN T p (w * j) w ≠ 0) ∨ Flt y 5 ∧ ∃ j, j < i ∧ m - k ≤ j ∧ bsN T p (w * j) w ≠ 0) ∧ ∀ j, fA y r j = if k ≤ j ∧ j < k + min i (m - k) then nI (bsN T p (w * (j - k)) w) else fA x r j) (fun _ _ _ _ _ _ a6 _ => 8 * many - a6.toNatClampNeg) ?_ _ _ _ _ _ _ _ _ ⟨rfl, rfl, rfl, rfl, rfl, rfl, 0, rfl, Nat.zero_le _, Fg.refl x, hp, Or.inl ⟨h0, fun z => by obtain ⟨j, j1, -⟩ := z; omega⟩, fun j => by rw [if_neg (by omega)]⟩
      rintro Q a0 a1 a2 a3 a4 a5 a6 y ⟨rfl, rfl, rfl, rfl, rfl, rfl, i, rfl, i1, y1, y2, y3, y4⟩ ih
      have Fy := y1.fi hr hF
      have nr : fN y r = fN x r := by show y.2.2.2.2.2 r = _; rw [y1.2.2.2.2.2]
      unfold j_Mod_readGroups_59
      rw [show (nI i).toInt64 = lN i from nI_l (by omega), e8, lg_cmp_ge, lN_le2 (by omega) (by omega)]
      by_cases ci : i < 8 * many
      · refine br_f (by omega) ?_
        rw [y2, nI_mul, nI_add]
        have wi : w * i ≤ 32 * i := Nat.mul_le_mul_right _ hw
        have wb : w * i + w ≤ 8 * (many * w) := by
          have : (i + 1) * w ≤ 8 * many * w := Nat.mul_le_mul_right _ ci
          rw [Nat.succ_mul, Nat.mul_comm i w, Nat.mul_assoc] at this
          exact this
        refine s_bitsAt Fy hw (by omega) (fun j hj => ?_) (by omega) ?_
        · have : (w * i + j) / 8 < many * w := Nat.div_lt_of_lt_mul (by omega)
          omega
        · have nx : ∀ z, FrRw r x z → fI z 0 67 = nI p → (fI z 0 69 = 0 ∧ (¬ ∃ j, j < i + 1 ∧ m - k ≤ j ∧ bsN T p (w * j) w ≠ 0) ∨ Flt z 5 ∧ ∃ j, j < i + 1 ∧ m - k ≤ j ∧ bsN T p (w * j) w ≠ 0) → (∀ j, fA z r j = if k ≤ j ∧ j < k + min (i + 1) (m - k) then nI (bsN T p (w * (j - k)) w) else fA x r j) → j_Mod_readGroups_118 post Q r (nI k) (nI m) (nI w) (nI st) (lN many) (nI i) (nI (bsN T p (w * i) w)) z := fun z z1 z2 z3 z4 => by
            unfold j_Mod_readGroups_118
            rw [nI_1]
            exact ih _ _ _ _ _ _ _ _ ⟨rfl, rfl, rfl, rfl, rfl, rfl, i + 1, rfl, ci, z1, z2, z3, z4⟩ (by rw [nI_clamp (by omega), nI_clamp (by omega)]; omega)
          have keep3 : (m - k ≤ i → bsN T p (w * i) w = 0) → (fI y 0 69 = 0 ∧ (¬ ∃ j, j < i + 1 ∧ m - k ≤ j ∧ bsN T p (w * j) w ≠ 0) ∨ Flt y 5 ∧ ∃ j, j < i + 1 ∧ m - k ≤ j ∧ bsN T p (w * j) w ≠ 0) := fun hz => by
            rcases y3 with ⟨q1, q2⟩ | ⟨q1, j, q2, q3, q4⟩
            · refine Or.inl ⟨q1, fun z => ?_⟩
              obtain ⟨j, j1, j2, j3⟩ := z
              by_cases ej : j = i
              · rw [ej] at j2 j3; exact j3 (hz j2)
              · exact q2 ⟨j, by omega, j2, j3⟩
            · exact Or.inr ⟨q1, j, by omega, q3, q4⟩
          by_cases cm : m ≤ k + i
          · refine br_t (by (first | omega | (simp (disch := omega) only [Int32.le_iff_toInt_le, Int32.lt_iff_toInt_lt, z_eq, z_in, nI_toInt, z_cl, z_m1, z_sg, z_255, Int32.reduceToInt] <;> omega) | (simp only [Int32.le_iff_toInt_le, Int32.lt_iff_toInt_lt, z_eq, z_in, z_add, z_sub, z_mul, z_neg, z_nI, z_cl, z_sg, z_255, z_lit, Int32.reduceToInt] <;> omega))) ?_
            have same : ∀ j, fA y r j = if k ≤ j ∧ j < k + min (i + 1) (m - k) then nI (bsN T p (w * (j - k)) w) else fA x r j := fun j => by
              rw [y4 j, show min (i + 1) (m - k) = min i (m - k) by omega]
            have bl := bsN_lt (T := T) (p := p) (m := w * i) w
            have b32 : 2 ^ w ≤ 2 ^ 32 := Nat.pow_le_pow_right (by decide) hw
            by_cases cz : bsN T p (w * i) w = 0
            · refine ⟨fun _ => nx y y1 y2 (keep3 (fun _ => cz)) same, fun z => absurd (by rw [cz]; rfl) z⟩
            · refine ⟨fun z => absurd (nI_inj (b := 0) (by omega) (by decide) z) cz, fun _ => nm_e (nx _ (Fg.trans y1 (Fg.i ⟨rfl, by decide⟩)) ((gI_ne (by decide)).trans y2) (Or.inr ⟨⟨gI_at, by decide, by decide⟩, i, by omega, by omega, cz⟩) same)⟩
          · refine br_f (by (first | omega | (simp (disch := omega) only [Int32.le_iff_toInt_le, Int32.lt_iff_toInt_lt, z_eq, z_in, nI_toInt, z_cl, z_m1, z_sg, z_255, Int32.reduceToInt] <;> omega) | (simp only [Int32.le_iff_toInt_le, Int32.lt_iff_toInt_lt, z_eq, z_in, z_add, z_sub, z_mul, z_neg, z_nI, z_cl, z_sg, z_255, z_lit, Int32.reduceToInt] <;> omega))) ⟨vp_in_nI (by omega) (by omega), nm_e ?_⟩
            refine nx _ (Fg.trans y1 (Fg.a rfl)) y2 (keep3 (fun z => by omega)) (fun j => ?_)
            rw [gA_at, nI_clamp (by omega)]
            by_cases e : j = k + i
            · rw [e, upd_at, if_pos (by omega), show k + i - k = i by omega]
            · rw [upd_ne (by omega), y4 j]
              by_cases e2 : k ≤ j ∧ j < k + min i (m - k)
              · rw [if_pos e2, if_pos (by omega)]
              · rw [if_neg e2, if_neg (by omega)]
      · have e : i = 8 * many := by omega
        subst e
        refine br_t (Nat.le_refl _) ?_
        rw [lN_i, nI_mul, show (8 : Int32) * nI many = nI (8 * many) from by rw [show (8 : Int32) = nI 8 from rfl, nI_mul], nI_add, y2, nI_add]
        refine nm_e ?_
        rcases y3 with ⟨q1, q2⟩ | ⟨q1, q2⟩
        · exact pk (by omega) (by omega) q2 _ (Fg.trans y1 (Fg.i ⟨rfl, by decide⟩)) gI_at ((gI_ne (by decide)).trans q1) (fun j => y4 j)
        · exact pe 5 _ (Or.inr ⟨by omega, Or.inr ⟨by omega, q2, rfl⟩⟩) (Fg.trans y1 (Fg.i ⟨rfl, by decide⟩)) ⟨(gI_ne (by decide)).trans q1.1, q1.2⟩ _ (Nat.le_add_right _ _) (by omega)
    · exact br_f c2 (nm_e (flt 1 (by decide) (by decide) (Or.inr ⟨by omega, Or.inl ⟨by omega, rfl⟩⟩)))
  · exact br_f c1 (nm_e (flt 4 (by decide) (by decide) (Or.inl ⟨by omega, rfl⟩)))
theorem s_rns {post : St → Prop} {r m w : Nat} (hF : FiM x T n) (h0 : fI x 0 69 = 0) (hp : fI x 0 67 = nI p) (hps : p ≤ st) (hst : st ≤ n) (hr : r ≠ 41) (hw : w ≤ 32) (hm : m ≤ fN x r) (hm2 : fN x r ≤ 2 ^ 20)
    (pe : ∀ e y, rns T m w st p = .error e → FrRw r x y → Flt y e → post y)
    (pk : ∀ L q y, rns T m w st p = .ok (L, q) → FrRw r x y → fI y 0 67 = nI q → fI y 0 69 = 0 → (∀ i, i < m → fA y r i = nI (L.getD i 0)) → post y) : wp_Mod_readRuns post r (nI m) (nI w) (nI st) x := by
  have hn := hF.2.1
  have hT := hF.2.2.1
  unfold wp_Mod_readRuns
  refine lp_Mod_readRuns_3 (fun a0 a1 a2 a3 a4 y => r = a0 ∧ nI m = a1 ∧ nI w = a2 ∧ nI st = a3 ∧ FrRw r x y ∧ ∃ kk, nI kk = a4 ∧ kk < 2 ^ 23 ∧ ((∃ e, Flt y e ∧ rns T m w st p = .error e) ∨ ∃ acc q, (acc.length = kk ∧ kk ≤ m ∨ acc.length = m ∧ m ≤ kk) ∧ fI y 0 69 = 0 ∧ fI y 0 67 = nI q ∧ q ≤ st ∧ rns T m w st p = rnF T w st m (m - acc.length) acc q ∧ ∀ i, i < acc.length → fA y r i = nI (acc.getD i 0))) (fun _ _ _ _ a4 y => (if fI y 0 69 = 0 then 1 else 0) + 2 * (m - a4.toNatClampNeg)) ?_ _ _ _ _ _ _ ⟨rfl, rfl, rfl, rfl, Fg.refl x, 0, rfl, by decide, Or.inr ⟨[], p, Or.inl ⟨rfl, Nat.zero_le _⟩, h0, hp, hps, rfl, fun i hi => absurd hi (Nat.not_lt_zero _)⟩⟩
  rintro Q a0 a1 a2 a3 a4 y ⟨rfl, rfl, rfl, rfl, y1, kk, rfl, k1, y2⟩ ih
  unfold j_Mod_readRuns_3
  rcases y2 with ⟨e, q1, q2⟩ | ⟨acc, q, q0, q1, q2, q3, q4, q5⟩
  · by_cases c : nI m ≤ nI kk
    · exact br_t c (pe e y q2 y1 q1)
    · exact br_f c ⟨fun _ => pe e y q2 y1 q1, fun z => absurd z q1.ne⟩
  · by_cases c : m ≤ kk
    · refine br_t (by (first | omega | (simp (disch := omega) only [Int32.le_iff_toInt_le, Int32.lt_iff_toInt_lt, z_eq, z_in, nI_toInt, z_cl, z_m1, z_sg, z_255, Int32.reduceToInt] <;> omega) | (simp only [Int32.le_iff_toInt_le, Int32.lt_iff_toInt_lt, z_eq, z_in, z_add, z_sub, z_mul, z_neg, z_nI, z_cl, z_sg, z_255, z_lit, Int32.reduceToInt] <;> omega))) ?_
      have el : acc.length = m := by omega
      have er : rns T m w st p = .ok (acc, q) := by rw [q4, el, Nat.sub_self]; rfl
      exact pk acc q y er y1 q2 q1 (fun i hi => q5 i (by omega))
    · refine br_f (by (first | omega | (simp (disch := omega) only [Int32.le_iff_toInt_le, Int32.lt_iff_toInt_lt, z_eq, z_in, nI_toInt, z_cl, z_m1, z_sg, z_255, Int32.reduceToInt] <;> omega) | (simp only [Int32.le_iff_toInt_le, Int32.lt_iff_toInt_lt, z_eq, z_in, z_add, z_sub, z_mul, z_neg, z_nI, z_cl, z_sg, z_255, z_lit, Int32.reduceToInt] <;> omega))) ⟨fun z => absurd q1 z, fun _ => ?_⟩
      have el : acc.length = kk := by omega
      have Fy := y1.fi hr hF
      have nr : fN y r = fN x r := by show y.2.2.2.2.2 r = _; rw [y1.2.2.2.2.2]
      obtain ⟨d, hd⟩ : ∃ d, m - acc.length = d + 1 := ⟨m - acc.length - 1, by omega⟩
      have er : rns T m w st p = rnF T w st m (d + 1) acc q := by rw [q4, hd]
      have go : ∀ (z : St) (v : Nat) l6 l8, FrRw r x z → v < 2 ^ 23 → ((∃ e, Flt z e ∧ rns T m w st p = .error e) ∧ kk ≤ v ∨ kk < v ∧ ∃ acc q, (acc.length = v ∧ v ≤ m ∨ acc.length = m ∧ m ≤ v) ∧ fI z 0 69 = 0 ∧ fI z 0 67 = nI q ∧ q ≤ st ∧ rns T m w st p = rnF T w st m (m - acc.length) acc q ∧ ∀ i, i < acc.length → fA z r i = nI (acc.getD i 0)) → j_Mod_readRuns_95 post Q r (nI m) (nI w) (nI st) (nI v) l6 l8 z := fun z v l6 l8 z1 z2 z3 => by
        unfold j_Mod_readRuns_95
        rcases z3 with ⟨⟨e, w1, w2⟩, z4⟩ | ⟨z4, z5⟩
        · refine ih _ _ _ _ _ _ ⟨rfl, rfl, rfl, rfl, z1, v, rfl, z2, Or.inl ⟨e, w1, w2⟩⟩ ?_
          rw [nI_clamp (by omega), nI_clamp (by omega), if_neg w1.ne, if_pos q1]
          omega
        · refine ih _ _ _ _ _ _ ⟨rfl, rfl, rfl, rfl, z1, v, rfl, z2, Or.inr z5⟩ ?_
          rw [nI_clamp (by omega), nI_clamp (by omega), if_pos q1]
          split <;> omega
      refine s_vrd Fy q1 q2 q3 hst (fun e z z1 z2 z3 => ?_) (fun h q' z z1 z2 z3 z4 => ?_)
      · refine ⟨fun w => absurd w z3.ne, fun _ => pe e z ?_ (Fg.trans y1 z2.rw) z3⟩
        rw [er]
        simp only [rnF]
        rw [if_neg (by omega), z1]
      · obtain ⟨v1, v2, v3⟩ := vrd_ok hT z1
        have Fz := z2.fi Fy
        have zy : FrRw r x z := Fg.trans y1 z2.rw
        have nz : fN z r = fN x r := by show z.2.2.2.2.2 r = _; rw [zy.2.2.2.2.2]
        have az : ∀ i, fA z r i = fA y r i := fun i => by show z.2.2.2.1 r i = _; rw [z2.2.2.2.1 r id]
        have rn : rns T m w st p = (if h / 2 = 0 then .error 3 else if h % 2 = 0 then
            (if m - acc.length < h / 2 then .error 4 else if st < q' + (w + 7) / 8 then .error 1 else if 2 ^ w ≤ fxV T q' ((w + 7) / 8) then .error 5 else rnF T w st m d (acc ++ List.replicate (h / 2) (fxV T q' ((w + 7) / 8))) (q' + (w + 7) / 8))
          else
            (if (m - acc.length + 7) / 8 < h / 2 then .error 4 else if st < q' + h / 2 * w then .error 1 else if ∃ j, j < 8 * (h / 2) ∧ m - acc.length ≤ j ∧ bsN T q' (w * j) w ≠ 0 then .error 5 else rnF T w st m d (acc ++ grL T q' w (min (8 * (h / 2)) (m - acc.length))) (q' + h / 2 * w))) := by
          rw [er]
          simp only [rnF]
          rw [if_neg (by omega), z1]
        refine ⟨fun _ => ?_, fun w => absurd z4 w⟩
        refine nm_r (e' := lN (h / 2)) (wb_shr (k := 1) v1 (by decide)) ?_
        have h2 : h / 2 < 2 ^ 63 := by omega
        by_cases c0 : h / 2 = 0
        · refine ⟨fun w => absurd ((lg_cmp_eq _ _).mpr (by rw [c0]; rfl)) w, fun _ => nm_e (go _ _ _ _ (Fg.trans zy (Fg.i ⟨rfl, by decide⟩)) k1 (Or.inl ⟨⟨3, ⟨gI_at, by decide, by decide⟩, by rw [rn, if_pos c0]⟩, Nat.le_refl _⟩))⟩
        · refine ⟨fun _ => ?_, fun w => absurd ((lN0 (by omega)).mp ((lg_cmp_eq _ _).mp w)) c0⟩
          rw [if_neg c0] at rn
          rw [wb_a1 v1]
          by_cases c1 : h % 2 = 0
          · rw [if_pos c1] at rn
            refine ⟨fun w => absurd ((lg_cmp_eq _ _).mpr (by rw [c1]; rfl)) w, fun _ => ?_⟩
            refine s_readOne (k := kk) (m := m) Fz z4 z3 v3 hst hr hw (by omega) (by omega) (by omega) h2 (fun e u u1 u2 u3 v hv hv2 => ?_) (fun u1 u2 u3 u u4 u5 u6 u7 => ?_)
            · refine go u v _ _ (Fg.trans zy u2) (by omega) (Or.inl ⟨⟨e, u3, ?_⟩, hv⟩)
              rw [← el] at u1
              rw [rn]
              rcases u1 with ⟨a, b⟩ | ⟨a, ⟨b, c⟩ | ⟨b, c, d'⟩⟩
              · rw [if_pos a, b]
              · rw [if_neg a, if_pos b, c]
              · rw [if_neg a, if_neg b, if_pos c, d']
            · rw [← el] at u1
              rw [if_neg u1, if_neg u2, if_neg u3] at rn
              refine go u _ _ _ (Fg.trans zy u4) (by omega) (Or.inr ⟨by omega, acc ++ List.replicate (h / 2) (fxV T q' ((w + 7) / 8)), q' + (w + 7) / 8, Or.inl ⟨by rw [List.length_append, List.length_replicate]; omega, by omega⟩, u6, u5, by omega, ?_, fun i hi => ?_⟩)
              · rw [rn]
                exact rnF_fuel _ _ _ _ (by rw [List.length_append, List.length_replicate]; omega) (by omega)
              · rw [List.length_append, List.length_replicate] at hi
                rw [u7 i]
                by_cases ci : i < acc.length
                · rw [if_neg (by omega), getD_app1 ci, az]; exact q5 i ci
                · rw [if_pos (by omega), getD_app2 (by omega), List.getD_eq_getElem?_getD, List.getElem?_replicate, if_pos (by omega)]
                  rfl
          · rw [if_neg c1] at rn
            refine ⟨fun _ => ?_, fun w => absurd ((lN0 (by omega)).mp ((lg_cmp_eq _ _).mp w)) c1⟩
            refine s_readGroups (k := kk) (m := m) Fz z4 z3 v3 hst hr hw (by omega) (by omega) (by omega) h2 (fun e u u1 u2 u3 v hv hv2 => ?_) (fun u1 u2 u3 u u4 u5 u6 u7 => ?_)
            · refine go u v _ _ (Fg.trans zy u2) (by omega) (Or.inl ⟨⟨e, u3, ?_⟩, hv⟩)
              rw [← el] at u1
              rw [rn]
              rcases u1 with ⟨a, b⟩ | ⟨a, ⟨b, c⟩ | ⟨b, c, d'⟩⟩
              · rw [if_pos a, b]
              · rw [if_neg a, if_pos b, c]
              · rw [if_neg a, if_neg b, if_pos c, d']
            · rw [← el] at u1 u3
              rw [if_neg u1, if_neg u2, if_neg u3] at rn
              have gl := grL_len (T := T) (p := q') (w := w) (min (8 * (h / 2)) (m - acc.length))
              have cl : (acc ++ grL T q' w (min (8 * (h / 2)) (m - acc.length))).length = acc.length + min (8 * (h / 2)) (m - acc.length) := by rw [List.length_append, gl]
              refine go u _ _ _ (Fg.trans zy u4) (by omega) (Or.inr ⟨by omega, acc ++ grL T q' w (min (8 * (h / 2)) (m - acc.length)), q' + h / 2 * w, ?_, u6, u5, by omega, ?_, fun i hi => ?_⟩)
              · rw [cl]; omega
              · rw [rn]
                exact rnF_fuel _ _ _ _ (by rw [cl]; omega) (by omega)
              · rw [cl] at hi
                rw [u7 i]
                by_cases ci : i < acc.length
                · rw [if_neg (by omega), getD_app1 ci, az]; exact q5 i ci
                · rw [if_pos (by omega), getD_app2 (by omega), grL_at _ _ (by omega), el]
end
