/-! the model reads levels -/
section
variable {x : St} {T : Nat → Nat} {n st p : Nat}
theorem lvR_ok {most m q : Nat} {L : List Nat} (hT : ∀ i, T i < 256) (h : lvR T most m st p = .ok (L, q)) (hp : p ≤ st) : L.length = m ∧ (∀ v, v ∈ L → v ≤ most) ∧ q ≤ st := by
  unfold lvR at h
  by_cases c0 : most = 0
  · rw [if_pos c0] at h
    simp only [Except.ok.injEq, Prod.mk.injEq] at h
    rw [← h.1, ← h.2]
    exact ⟨List.length_replicate, fun v hv => by rw [(List.mem_replicate.mp hv).2]; omega, hp⟩
  · rw [if_neg c0] at h
    cases ev : vrd T st p with
    | error e => rw [ev] at h; exact absurd h (by simp)
    | ok w =>
      obtain ⟨z, q1⟩ := w
      rw [ev] at h
      simp only at h
      by_cases c1 : st < q1 + z
      · rw [if_pos c1] at h; exact absurd h (by simp)
      rw [if_neg c1] at h
      cases er : rns T m (bl most) (q1 + z) q1 with
      | error e => rw [er] at h; exact absurd h (by simp)
      | ok w =>
        obtain ⟨L', q2⟩ := w
        rw [er] at h
        simp only at h
        obtain ⟨r1, r2, r3, r4⟩ := rns_ok hT er (by omega)
        by_cases c2 : q2 < q1 + z
        · rw [if_pos c2] at h; exact absurd h (by simp)
        rw [if_neg c2] at h
        by_cases c3 : ∃ v, v ∈ L' ∧ most < v
        · rw [if_pos c3] at h; exact absurd h (by simp)
        rw [if_neg c3] at h
        simp only [Except.ok.injEq, Prod.mk.injEq] at h
        rw [← h.1, ← h.2]
        exact ⟨r1, fun v hv => Nat.not_lt.mp (fun z => c3 ⟨v, hv, z⟩), by omega⟩
/-- rows that levels are read into -/
theorem s_lvR {post : St → Prop} {r m most : Nat} (hF : FiM x T n) (h0 : fI x 0 69 = 0) (hp : fI x 0 67 = nI p) (h68 : fI x 0 68 = nI st) (hps : p ≤ st) (hst : st ≤ n) (hr : r ≠ 41) (hm : m ≤ fN x r) (hm2 : fN x r ≤ 2 ^ 20) (hmost : most ≤ 17)
    (pe : ∀ e y, lvR T most m st p = .error e → FrRw r x y → Flt y e → post y)
    (pk : ∀ L q y, lvR T most m st p = .ok (L, q) → FrRw r x y → fI y 0 69 = 0 → fI y 0 67 = nI q → q ≤ st → L.length = m → (∀ i, i < m → fA y r i = nI (L.getD i 0)) → post y) : wp_Mod_readLevels post r (nI m) (nI most) x := by
  have hn := hF.2.1
  have hT := hF.2.2.1
  unfold wp_Mod_readLevels
  by_cases c0 : most = 0
  · have el : lvR T most m st p = .ok (List.replicate m 0, p) := by unfold lvR; rw [if_pos c0]
    refine lp_Mod_readLevels_3 (fun a0 a1 a2 a3 y => r = a0 ∧ nI m = a1 ∧ nI most = a2 ∧ ∃ k, nI k = a3 ∧ k ≤ m ∧ Fg no2 no2 no2 (fun a => a = r) no1 x y ∧ ∀ j, j < k → fA y r j = 0) (fun _ _ _ a3 _ => m - a3.toNatClampNeg) ?_ _ _ _ _ _ ⟨rfl, rfl, rfl, 0, rfl, Nat.zero_le _, Fg.refl x, fun j hj => absurd hj (Nat.not_lt_zero _)⟩
    rintro Q a0 a1 a2 a3 y ⟨rfl, rfl, rfl, k, rfl, k1, y1, y2⟩ ih
    have nr : fN y r = fN x r := by show y.2.2.2.2.2 r = _; rw [y1.2.2.2.2.2]
    unfold j_Mod_readLevels_3
    by_cases c : k < m
    · refine br_f (by (first | omega | (simp (disch := omega) only [Int32.le_iff_toInt_le, Int32.lt_iff_toInt_lt, z_eq, z_in, nI_toInt, z_cl, z_m1, z_sg, z_255, Int32.reduceToInt] <;> omega) | (simp only [Int32.le_iff_toInt_le, Int32.lt_iff_toInt_lt, z_eq, z_in, z_add, z_sub, z_mul, z_neg, z_nI, z_cl, z_sg, z_255, z_lit, Int32.reduceToInt] <;> omega))) ⟨fun z => absurd (by rw [c0]; rfl) z, fun _ => ⟨vp_in_nI (by omega) (by omega), nm_e ?_⟩⟩
      rw [nI_1]
      refine ih _ _ _ _ _ ⟨rfl, rfl, rfl, k + 1, rfl, c, Fg.trans y1 (Fg.a rfl), fun j hj => ?_⟩ (by rw [nI_clamp (by omega), nI_clamp (by omega)]; omega)
      rw [gA_at, nI_clamp (by omega)]
      by_cases e : j = k
      · rw [e, upd_at]
      · rw [upd_ne (by omega)]; exact y2 j (by omega)
    · have e : k = m := by omega
      subst e
      refine br_t (by (first | omega | (simp (disch := omega) only [Int32.le_iff_toInt_le, Int32.lt_iff_toInt_lt, z_eq, z_in, nI_toInt, z_cl, z_m1, z_sg, z_255, Int32.reduceToInt] <;> omega) | (simp only [Int32.le_iff_toInt_le, Int32.lt_iff_toInt_lt, z_eq, z_in, z_add, z_sub, z_mul, z_neg, z_nI, z_cl, z_sg, z_255, z_lit, Int32.reduceToInt] <;> omega))) ?_
      unfold j_Mod_readLevels_24
      refine br_t (by rw [c0]; rfl) (pk _ p y el (y1.mono (fun _ _ z => z.elim) (fun _ _ z => z) (fun _ _ z => z) (fun _ z => z) (fun _ z => z)) ((y1.1 0 69 id).trans h0) ((y1.1 0 67 id).trans hp) hps List.length_replicate (fun i hi => ?_))
      rw [y2 i hi, List.getD_eq_getElem?_getD, List.getElem?_replicate, if_pos hi]
      rfl
  · have bm5 := bl5 hmost
    refine ⟨1, ?_⟩
    unfold wl_Mod_readLevels_3 j_Mod_readLevels_3
    have go : j_Mod_readLevels_24 post r (nI m) (nI most) 0 x := by
      unfold j_Mod_readLevels_24
      refine br_f (fun z => c0 (nI_inj (b := 0) (by omega) (by decide) z)) ⟨fun _ => ?_, fun z => absurd h0 z⟩
      rw [h68]
      have stp : ∀ (y : St) l4 e, Flt y e → lvR T most m st p = .error e → FrRw r x y → j_Mod_readLevels_81 post r (nI m) (nI most) l4 y := fun y l4 e hf he hy => by
        unfold j_Mod_readLevels_81
        exact ⟨fun z => absurd z hf.ne, fun _ => pe e y he hy hf⟩
      refine s_vrd hF h0 hp hps hst (fun e y y1 y2 y3 => ?_) (fun z q y y1 y2 y3 y4 => ?_)
      · exact ⟨fun _ => stp y _ e y3 (by unfold lvR; rw [if_neg c0, y1]) y2.rw, fun w => absurd w y3.ne⟩
      · obtain ⟨v1, v2, v3⟩ := vrd_ok hT y1
        have Fy := y2.fi hF
        have el : lvR T most m st p = (if st < q + z then .error 1 else match rns T m (bl most) (q + z) q with
          | .error e => .error e
          | .ok (L, q2) => if q2 < q + z then .error 6 else if ∃ v, v ∈ L ∧ most < v then .error 9 else .ok (L, q2)) := by
          unfold lvR; rw [if_neg c0, y1]
          rfl
        refine ⟨fun w => absurd y4 w, fun _ => ?_⟩
        rw [show fI y 0 68 = nI st from (y2.1 0 68 (by decide)).trans h68, y3, nI_sub v3]
        refine oob_tests (post := True) v1 (show (nI (st - q)).toInt64 = lN (st - q) from nI_l (by omega)) (by omega) (fun c => ?_) (fun c => ?_)
        · rw [if_pos (by omega)] at el
          unfold j_Mod_readLevels_76
          exact nm_e (stp _ _ 1 ⟨gI_at, by decide, by decide⟩ el (Fg.trans y2.rw (Fg.i ⟨rfl, by decide⟩)))
        · rw [if_neg (by omega)] at el
          unfold j_Mod_readLevels_81
          refine ⟨fun _ => ?_, fun w => absurd y4 w⟩
          rw [y3, lN_i, nI_add]
          refine nm_e ?_
          refine lp_Mod_readLevels_102 (fun a0 a1 a2 a3 a4 a5 u => r = a0 ∧ nI m = a1 ∧ nI most = a2 ∧ nI (q + z) = a4 ∧ y = u ∧ ∃ w, nI w = a5 ∧ w ≤ bl most) (fun _ _ _ _ _ a5 _ => bl most - a5.toNatClampNeg) ?_ _ _ _ _ _ _ _ ⟨rfl, rfl, rfl, rfl, rfl, 0, rfl, Nat.zero_le _⟩
          rintro Q a0 a1 a2 a3 a4 a5 u ⟨rfl, rfl, rfl, rfl, rfl, w, rfl, w1⟩ ih
          unfold j_Mod_readLevels_102
          have hd : most / 2 ^ w ≤ most := Nat.div_le_self _ _
          rw [sh_w (by omega) (by omega)]
          by_cases c : w < bl most
          · have hb : ¬ bl most ≤ w := by omega
            rw [bl_le] at hb
            have h1 : 1 ≤ most / 2 ^ w := (Nat.le_div_iff_mul_le (Nat.two_pow_pos w)).mpr (by omega)
            refine br_f (by (first | omega | (simp (disch := omega) only [Int32.le_iff_toInt_le, Int32.lt_iff_toInt_lt, z_eq, z_in, nI_toInt, z_cl, z_m1, z_sg, z_255, Int32.reduceToInt] <;> omega) | (simp only [Int32.le_iff_toInt_le, Int32.lt_iff_toInt_lt, z_eq, z_in, z_add, z_sub, z_mul, z_neg, z_nI, z_cl, z_sg, z_255, z_lit, Int32.reduceToInt] <;> omega))) ?_
            rw [nI_1]
            exact ih _ _ _ _ _ _ _ ⟨rfl, rfl, rfl, rfl, rfl, w + 1, rfl, by omega⟩ (by rw [nI_clamp (by omega), nI_clamp (by omega)]; omega)
          · have ew : w = bl most := by omega
            subst ew
            have hb := bl_le.mp (Nat.le_refl (bl most))
            refine br_t (by rw [Nat.div_eq_of_lt hb]; decide) ?_
            have nr : fN y r = fN x r := by show y.2.2.2.2.2 r = _; rw [y2.2.2.2.2.2]
            have stp2 : ∀ (b : St) l4 l6 l7 e, Flt b e → lvR T most m st p = .error e → FrRw r x b → j_Mod_readLevels_147 post r (nI m) (nI most) l4 l6 l7 b := fun b l4 l6 l7 e hf he hb => by
              unfold j_Mod_readLevels_147
              refine ⟨1, ?_⟩
              unfold wl_Mod_readLevels_150 j_Mod_readLevels_150
              by_cases c : nI m ≤ 0
              · exact br_t c (pe e b he hb hf)
              · exact br_f c ⟨fun _ => pe e b he hb hf, fun w => absurd w hf.ne⟩
            refine s_rns Fy y4 y3 (by omega) (by omega) hr (by omega) (by omega) (by omega) (fun e b b1 b2 b3 => ?_) (fun L q2 b b1 b2 b3 b4 b5 => ?_)
            · exact ⟨fun _ => stp2 b _ _ _ e b3 (by rw [el, b1]) (Fg.trans y2.rw b2), fun w => absurd w b3.ne⟩
            · rw [b1] at el
              simp only at el
              obtain ⟨r1, r2, r3, r4⟩ := rns_ok hT b1 (by omega)
              have fb : FrRw r x b := Fg.trans y2.rw b2
              have nb : fN b r = fN x r := by show b.2.2.2.2.2 r = _; rw [fb.2.2.2.2.2]
              refine ⟨fun w => absurd b4 w, fun _ => ?_⟩
              rw [b3]
              by_cases c6 : q2 < q + z
              · rw [if_pos c6] at el
                exact br_f (by (first | omega | (simp (disch := omega) only [Int32.le_iff_toInt_le, Int32.lt_iff_toInt_lt, z_eq, z_in, nI_toInt, z_cl, z_m1, z_sg, z_255, Int32.reduceToInt] <;> omega) | (simp only [Int32.le_iff_toInt_le, Int32.lt_iff_toInt_lt, z_eq, z_in, z_add, z_sub, z_mul, z_neg, z_nI, z_cl, z_sg, z_255, z_lit, Int32.reduceToInt] <;> omega))) (nm_e (stp2 _ _ _ _ 6 ⟨gI_at, by decide, by decide⟩ el (Fg.trans fb (Fg.i ⟨rfl, by decide⟩))))
              · rw [if_neg c6] at el
                refine br_t (by (first | omega | (simp (disch := omega) only [Int32.le_iff_toInt_le, Int32.lt_iff_toInt_lt, z_eq, z_in, nI_toInt, z_cl, z_m1, z_sg, z_255, Int32.reduceToInt] <;> omega) | (simp only [Int32.le_iff_toInt_le, Int32.lt_iff_toInt_lt, z_eq, z_in, z_add, z_sub, z_mul, z_neg, z_nI, z_cl, z_sg, z_255, z_lit, Int32.reduceToInt] <;> omega))) ?_
                have p5 : 2 ^ bl most ≤ 2 ^ 5 := Nat.pow_le_pow_right (by decide) bm5
                unfold j_Mod_readLevels_147
                have key : ∀ d k, k + d = m → (∀ j, j < k → L.getD j 0 ≤ most) → ∀ l4 l6 l7, wl_Mod_readLevels_150 post (d + 2) r (nI m) (nI most) l4 l6 l7 (nI k) b := by
                  intro d
                  induction d with
                  | zero =>
                    intro k hk hj l4 l6 l7
                    have ek : k = m := by omega
                    subst ek
                    unfold wl_Mod_readLevels_150 j_Mod_readLevels_150
                    rw [if_neg (fun w => by
                      obtain ⟨v, w1, w2⟩ := w
                      obtain ⟨j, hj', rfl⟩ := List.getElem_of_mem w1
                      have := hj j (by omega)
                      rw [List.getD_eq_getElem?_getD, List.getElem?_eq_getElem hj'] at this
                      have this : L[j] ≤ most := this
                      omega)] at el
                    exact br_t (by (first | omega | (simp (disch := omega) only [Int32.le_iff_toInt_le, Int32.lt_iff_toInt_lt, z_eq, z_in, nI_toInt, z_cl, z_m1, z_sg, z_255, Int32.reduceToInt] <;> omega) | (simp only [Int32.le_iff_toInt_le, Int32.lt_iff_toInt_lt, z_eq, z_in, z_add, z_sub, z_mul, z_neg, z_nI, z_cl, z_sg, z_255, z_lit, Int32.reduceToInt] <;> omega))) (pk L q2 b el fb b4 b3 (by omega) r1 b5)
                  | succ d ihd =>
                    intro k hk hj l4 l6 l7
                    have hkL : k < L.length := by omega
                    have lt := r2 _ (getD_mem hkL)
                    have bad : most < L.getD k 0 → j_Mod_readLevels_178 post (wl_Mod_readLevels_150 post (d + 2)) r (nI m) (nI most) l4 l6 l7 (nI k) b := fun cv => by
                      rw [if_pos ⟨L.getD k 0, getD_mem hkL, cv⟩] at el
                      unfold j_Mod_readLevels_178 j_Mod_readLevels_184
                      refine nm_e ?_
                      have fl : Flt (setI b 0 69 9) 9 := ⟨gI_at, by decide, by decide⟩
                      have hb2 : FrRw r x (setI b 0 69 9) := Fg.trans fb (Fg.i ⟨rfl, by decide⟩)
                      unfold wl_Mod_readLevels_150 j_Mod_readLevels_150
                      by_cases c : nI m ≤ nI k + 1
                      · exact br_t c (pe 9 _ el hb2 fl)
                      · exact br_f c ⟨fun _ => pe 9 _ el hb2 fl, fun w => absurd w fl.ne⟩
                    unfold wl_Mod_readLevels_150 j_Mod_readLevels_150
                    refine br_f (by (first | omega | (simp (disch := omega) only [Int32.le_iff_toInt_le, Int32.lt_iff_toInt_lt, z_eq, z_in, nI_toInt, z_cl, z_m1, z_sg, z_255, Int32.reduceToInt] <;> omega) | (simp only [Int32.le_iff_toInt_le, Int32.lt_iff_toInt_lt, z_eq, z_in, z_add, z_sub, z_mul, z_neg, z_nI, z_cl, z_sg, z_255, z_lit, Int32.reduceToInt] <;> omega))) ⟨fun w => absurd b4 w, fun _ => ⟨vp_in_nI (by omega) (by omega), ?_⟩⟩
                    rw [rA_nI (by omega), b5 k (by omega)]
                    refine br_f (nI_pos (by omega)) ⟨vp_in_nI (by omega) (by omega), ?_⟩
                    by_cases cv : L.getD k 0 ≤ most
                    · refine br_t (by (first | omega | (simp (disch := omega) only [Int32.le_iff_toInt_le, Int32.lt_iff_toInt_lt, z_eq, z_in, nI_toInt, z_cl, z_m1, z_sg, z_255, Int32.reduceToInt] <;> omega) | (simp only [Int32.le_iff_toInt_le, Int32.lt_iff_toInt_lt, z_eq, z_in, z_add, z_sub, z_mul, z_neg, z_nI, z_cl, z_sg, z_255, z_lit, Int32.reduceToInt] <;> omega))) ?_
                      unfold j_Mod_readLevels_184
                      rw [nI_1]
                      exact ihd (k + 1) (by omega) (fun j hj' => by
                        by_cases e : j = k
                        · rw [e]; exact cv
                        · exact hj j (by omega)) _ _ _
                    · exact br_f (by (first | omega | (simp (disch := omega) only [Int32.le_iff_toInt_le, Int32.lt_iff_toInt_lt, z_eq, z_in, nI_toInt, z_cl, z_m1, z_sg, z_255, Int32.reduceToInt] <;> omega) | (simp only [Int32.le_iff_toInt_le, Int32.lt_iff_toInt_lt, z_eq, z_in, z_add, z_sub, z_mul, z_neg, z_nI, z_cl, z_sg, z_255, z_lit, Int32.reduceToInt] <;> omega))) (bad (by omega))
                exact ⟨m + 2, key m 0 (by omega) (fun j hj => absurd hj (Nat.not_lt_zero _)) _ _ _⟩
    by_cases c : nI m ≤ 0
    · exact br_t c go
    · exact br_f c ⟨fun _ => go, fun z => absurd (nI_inj (b := 0) (by omega) (by decide) z) c0⟩
/-- behind a fault levels leave all but their row -/
theorem s_lvR0 {post : St → Prop} {r m most : Nat} (h0 : ¬ fI x 0 69 = 0) (hm : m ≤ fN x r) (hm2 : fN x r ≤ 2 ^ 20) (hmost : most ≤ 17) (pk : ∀ y, Fg no2 no2 no2 (fun a => a = r) no1 x y → post y) : wp_Mod_readLevels post r (nI m) (nI most) x := by
  unfold wp_Mod_readLevels
  refine lp_Mod_readLevels_3 (fun a0 a1 a2 a3 y => r = a0 ∧ nI m = a1 ∧ nI most = a2 ∧ ∃ k, nI k = a3 ∧ k ≤ m ∧ Fg no2 no2 no2 (fun a => a = r) no1 x y) (fun _ _ _ a3 _ => m - a3.toNatClampNeg) ?_ _ _ _ _ _ ⟨rfl, rfl, rfl, 0, rfl, Nat.zero_le _, Fg.refl x⟩
  rintro Q a0 a1 a2 a3 y ⟨rfl, rfl, rfl, k, rfl, k1, y1⟩ ih
  have nr : fN y r = fN x r := by show y.2.2.2.2.2 r = _; rw [y1.2.2.2.2.2]
  have y69 : ¬ fI y 0 69 = 0 := fun z => h0 ((y1.1 0 69 id).symm.trans z)
  have go : ∀ l, j_Mod_readLevels_24 post r (nI m) (nI most) l y := fun l => by
    unfold j_Mod_readLevels_24
    exact ⟨fun _ => pk y y1, fun _ => ⟨fun z => absurd z y69, fun _ => pk y y1⟩⟩
  unfold j_Mod_readLevels_3
  by_cases c : k < m
  · refine br_f (by (first | omega | (simp (disch := omega) only [Int32.le_iff_toInt_le, Int32.lt_iff_toInt_lt, z_eq, z_in, nI_toInt, z_cl, z_m1, z_sg, z_255, Int32.reduceToInt] <;> omega) | (simp only [Int32.le_iff_toInt_le, Int32.lt_iff_toInt_lt, z_eq, z_in, z_add, z_sub, z_mul, z_neg, z_nI, z_cl, z_sg, z_255, z_lit, Int32.reduceToInt] <;> omega))) ⟨fun _ => go _, fun _ => ⟨vp_in_nI (by omega) (by omega), nm_e ?_⟩⟩
    rw [nI_1]
    exact ih _ _ _ _ _ ⟨rfl, rfl, rfl, k + 1, rfl, c, Fg.trans y1 (Fg.a rfl)⟩ (by rw [nI_clamp (by omega), nI_clamp (by omega)]; omega)
  · exact br_t (by (first | omega | (simp (disch := omega) only [Int32.le_iff_toInt_le, Int32.lt_iff_toInt_lt, z_eq, z_in, nI_toInt, z_cl, z_m1, z_sg, z_255, Int32.reduceToInt] <;> omega) | (simp only [Int32.le_iff_toInt_le, Int32.lt_iff_toInt_lt, z_eq, z_in, z_add, z_sub, z_mul, z_neg, z_nI, z_cl, z_sg, z_255, z_lit, Int32.reduceToInt] <;> omega))) (go _)
end
