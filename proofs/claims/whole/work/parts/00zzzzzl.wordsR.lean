/-! the model reads a DICTIONARY of numbers; levels -/
section
variable {x : St} {T : Nat → Nat} {n st p : Nat}
theorem dtx_w {W : List PV} (hW : ∀ k, k < W.length → (pvd W k).2 = []) : ∀ N acc, (∀ k, k < acc.length → (pvd acc k).2 = []) → (dtx W N acc = if ∃ v, v ∈ N ∧ W.length ≤ v then .error 7 else .ok (acc ++ N.map (pvd W))) := by
  have oz : ∀ acc : List PV, (∀ k, k < acc.length → (pvd acc k).2 = []) → ∀ k, k ≤ acc.length → oF acc k = 0 := by
    intro acc ha k
    induction k with
    | zero => intro _; rfl
    | succ k ih => intro hk; show oF acc k + (pvd acc k).2.length = 0; rw [ih (by omega), ha k (by omega)]; rfl
  intro N
  induction N with
  | nil => intro acc ha; simp only [dtx]; rw [if_neg (fun z => by obtain ⟨v, h, -⟩ := z; exact absurd h (by simp))]; rw [List.map_nil, List.append_nil]
  | cons v N ih =>
    intro acc ha
    simp only [dtx]
    by_cases c : W.length ≤ v
    · rw [if_pos c, if_pos ⟨v, List.mem_cons_self, c⟩]
    · rw [if_neg c, oz acc ha _ (Nat.le_refl _), hW v (by omega), if_neg (by show ¬ 20000 < 0 + 0; omega)]
      rw [ih (acc ++ [pvd W v]) (fun k hk => ?_)]
      · by_cases c2 : ∃ u, u ∈ N ∧ W.length ≤ u
        · obtain ⟨u, u1, u2⟩ := c2
          rw [if_pos ⟨u, u1, u2⟩, if_pos ⟨u, List.mem_cons_of_mem _ u1, u2⟩]
        · rw [if_neg c2, if_neg (fun z => by
            obtain ⟨u, u1, u2⟩ := z
            rcases List.mem_cons.mp u1 with e | e
            · rw [e] at u2; exact c u2
            · exact c2 ⟨u, e, u2⟩), List.map_cons, List.append_assoc]
          rfl
      · rw [List.length_append] at hk
        have hk : k < acc.length + 1 := hk
        by_cases e : k = acc.length
        · rw [e, pv_last]; exact hW v (by omega)
        · rw [pvd_a1 (by omega)]; exact ha k (by omega)
theorem wplF_tx {ty : Nat} : ∀ d acc p P q, wplF T ty st d acc p = .ok (P, q) → (∀ k, k < acc.length → (pvd acc k).2 = []) → ∀ k, k < P.length → (pvd P k).2 = [] := by
  intro d
  induction d with
  | zero => intro acc p P q h ha; simp only [wplF, Except.ok.injEq, Prod.mk.injEq] at h; rw [← h.1]; exact ha
  | succ d ih =>
    intro acc p P q h ha
    simp only [wplF] at h
    cases e : fxd T (wid ty) st p with
    | error e' => rw [e] at h; exact absurd h (by simp)
    | ok w =>
      obtain ⟨v, q1⟩ := w
      rw [e] at h
      refine ih _ _ _ _ h (fun k hk => ?_)
      rw [List.length_append] at hk
      have hk : k < acc.length + 1 := hk
      by_cases e : k = acc.length
      · rw [e, pv_last]
      · rw [pvd_a1 (by omega)]; exact ha k (by omega)
theorem s_dcW {post : St → Prop} {ty m : Nat} {how : Int32} (hF : FiM x T n) (h0 : fI x 0 69 = 0) (hp : fI x 0 67 = nI p) (h68 : fI x 0 68 = nI st) (h38 : fI x 0 38 = nI ty) (hty : ty = 1 ∨ ty = 2) (hps : p ≤ st) (hst : st ≤ n) (hm : m ≤ 1000) (hh0 : ¬ how = 0) (hh1 : ¬ how = 1)
    (pe : ∀ e y, dcR T ty m st p = .error e → FrVn x y → Flt y e → post y)
    (pk : ∀ P W q y, dcR T ty m st p = .ok ((P, W), q) → FrVn x y → fI y 0 69 = 0 → fI y 0 67 = nI q → q ≤ st → NwW y P → WdW y W → P.length = m → post y) : wp_Mod_readWholes post how (nI m) x := by
  have hn := hF.2.1
  have hT := hF.2.2.1
  have e31 : fN x 31 = 1000 := hF.1 31
  have e32 : fN x 32 = 1000 := hF.1 32
  have e44 : fN x 44 = 1008 := hF.1 44
  have ty3 : ¬ ty = 3 := by omega
  unfold wp_Mod_readWholes
  refine ⟨fun _ => ⟨fun _ => ?_, fun z => absurd z hh1⟩, fun z => absurd z hh0⟩
  unfold wp_Mod_readWords
  rw [h68]
  -- behind a fault
  have sE : ∀ (y : St) l2 l4 l5 e d, Flt y e → dcR T ty m st p = .error e → FrVn x y → wl_Mod_readWords_166 post (d + 1) (nI m) l2 l4 l5 y := fun y l2 l4 l5 e d hf he hy => by
    unfold wl_Mod_readWords_166 j_Mod_readWords_166
    by_cases c : nI m ≤ l5
    · exact br_t c (pe e y he hy hf)
    · exact br_f c ⟨fun _ => pe e y he hy hf, fun z => absurd z hf.ne⟩
  have sD : ∀ (y : St) l2 l4 e, Flt y e → dcR T ty m st p = .error e → FrVn x y → j_Mod_readWords_139 post (nI m) l2 l4 y := fun y l2 l4 e hf he hy => by
    unfold j_Mod_readWords_139 j_Mod_readWords_163
    exact ⟨fun _ => ⟨1, sE y _ _ _ e 0 hf he hy⟩, fun z => absurd z hf.ne⟩
  have sC : ∀ (y : St) l2 l4 e, Flt y e → dcR T ty m st p = .error e → FrVn x y → j_Mod_readWords_117 post (nI m) l2 l4 y := fun y l2 l4 e hf he hy => by
    unfold j_Mod_readWords_117
    exact ⟨fun _ => sD y _ _ e hf he hy, fun z => absurd z hf.ne⟩
  have sB : ∀ (y : St) l2 l4 e, Flt y e → dcR T ty m st p = .error e → FrVn x y → j_Mod_readWords_86 post (nI m) l2 l4 y := fun y l2 l4 e hf he hy => by
    unfold j_Mod_readWords_86
    refine s_fxd0 hf.ne (nm_e ⟨fun _ => sC y _ _ e hf he hy, fun z => absurd z hf.ne⟩)
  have sA : ∀ (y : St) l2 l4 e d, Flt y e → dcR T ty m st p = .error e → FrVn x y → wl_Mod_readWords_54 post (d + 1) (nI m) l2 l4 y := fun y l2 l4 e d hf he hy => by
    unfold wl_Mod_readWords_54 j_Mod_readWords_54
    by_cases c : 0 ≤ lg_cmp (l4 : Int32).toInt64 l2
    · exact br_t c (sB y _ _ e hf he hy)
    · exact br_f c ⟨fun _ => sB y _ _ e hf he hy, fun z => absurd z hf.ne⟩
  have s0 : ∀ (y : St) l2 e, Flt y e → dcR T ty m st p = .error e → FrVn x y → j_Mod_readWords_34 post (nI m) l2 y := fun y l2 e hf he hy => by
    unfold j_Mod_readWords_34 j_Mod_readWords_48
    exact ⟨fun _ => nm_e ⟨1, sA _ _ _ e 0 ⟨(gI_ne (by decide)).trans hf.1, hf.2⟩ he (Fg.trans hy (Fg.i ⟨rfl, by decide⟩))⟩, fun z => absurd z hf.ne⟩
  refine s_vrd hF h0 hp hps hst (fun e y y1 y2 y3 => ?_) (fun d q y y1 y2 y3 y4 => ?_)
  · exact ⟨fun _ => s0 y _ e y3 (by unfold dcR; rw [y1]) y2.vn, fun w => absurd w y3.ne⟩
  · obtain ⟨v1, v2, v3⟩ := vrd_ok hT y1
    have ed : dcR T ty m st p = (if m < d then .error 4 else match wplF T ty st d [] q with
      | .error e => .error e
      | .ok (W, q1) => if st ≤ q1 then .error 1 else if 32 < T q1 then .error 5 else match rns T m (T q1) st (q1 + 1) with
        | .error e => .error e
        | .ok (N, q2) => if q2 < st then .error 6 else match dtx W N [] with
          | .error e => .error e
          | .ok P => .ok ((P, W), q2)) := by
      unfold dcR; rw [y1]; simp only; rw [if_neg ty3]
      rfl
    refine ⟨fun w => absurd y4 w, fun _ => oob_tests (post := True) v1 (show (nI m).toInt64 = lN m from nI_l (by omega)) (by omega) (fun c => ?_) (fun c => ?_)⟩
    · rw [if_pos c] at ed
      unfold j_Mod_readWords_29
      exact nm_e (s0 _ _ 4 ⟨gI_at, by decide, by decide⟩ ed (Fg.trans y2.vn (Fg.i ⟨rfl, by decide⟩)))
    · rw [if_neg (by omega)] at ed
      unfold j_Mod_readWords_34 j_Mod_readWords_48
      refine ⟨fun w => absurd y4 w, fun _ => ?_⟩
      rw [lN_i]
      refine nm_e ?_
      -- the words
      have key : ∀ dd acc q1 (z : St), acc.length + dd = d → FrVn x z → fI z 0 69 = 0 → fI z 0 67 = nI q1 → q1 ≤ st → fI z 0 59 = nI d → (∀ k, k < acc.length → fL z 32 k = (pvd acc k).1) → wplF T ty st d [] q = wplF T ty st dd acc q1 → wl_Mod_readWords_54 post (dd + 1) (nI m) (lN d) (nI acc.length) z := by
        intro dd
        induction dd with
        | zero =>
          intro acc q1 z hd z1 z2 z3 z4 z59 z5 z6
          unfold wl_Mod_readWords_54 j_Mod_readWords_54
          refine br_t (by rw [show (nI acc.length).toInt64 = lN acc.length from nI_l (by omega), lg_cmp_ge, lN_le2 (by omega) (by omega)]; omega) ?_
          have ew : wplF T ty st d [] q = .ok (acc, q1) := z6
          have wl := wplF_ok _ _ _ _ _ ew v3
          have wt := wplF_tx _ _ _ _ _ ew (fun k hk => absurd hk (Nat.not_lt_zero _))
          rw [ew] at ed
          simp only at ed
          have Fz := z1.fi hF
          unfold j_Mod_readWords_86
          rw [show fI z 0 68 = nI st from (z1.1 0 68 (by decide)).trans h68, show (1 : Int32) = nI 1 from rfl]
          have f1 : fxd T 1 st q1 = if st ≤ q1 then .error 1 else .ok (T q1, q1 + 1) := by
            unfold fxd
            by_cases c : st ≤ q1
            · rw [if_pos c, if_pos (by omega)]
            · rw [if_neg c, if_neg (by omega)]
              show Except.ok (0 + T (q1 + 0) * 256 ^ 0, q1 + 1) = _
              simp
          refine s_fxd Fz z2 z3 z4 hst (by decide) (fun e u u1 u2 u3 => ?_) (fun v q2 u u1 u2 u3 u4 => ?_)
          · have c : st ≤ q1 := Classical.byContradiction (fun c => by rw [f1, if_neg c] at u1; exact absurd u1 (by simp))
            rw [if_pos c] at ed
            have e1 := fxd_err u1
            rw [e1] at u3
            exact nm_e ⟨fun _ => sC u _ _ 1 u3 ed (Fg.trans z1 u2.vn), fun w => absurd w u3.ne⟩
          · have c : ¬ st ≤ q1 := fun c => by rw [f1, if_pos c] at u1; exact absurd u1 (by simp)
            rw [f1, if_neg c] at u1
            simp only [Except.ok.injEq, Prod.mk.injEq] at u1
            rw [if_neg c] at ed
            have hTq := hT q1
            rw [← u1.1, lN_i]
            rw [← u1.2] at u3
            have fu : FrVn x u := Fg.trans z1 u2.vn
            refine nm_e ⟨fun w => absurd u4 w, fun _ => ?_⟩
            by_cases c4 : 32 < T q1
            · rw [if_pos c4] at ed
              exact br_f (by (first | omega | (simp (disch := omega) only [Int32.le_iff_toInt_le, Int32.lt_iff_toInt_lt, z_eq, z_in, nI_toInt, z_cl, z_m1, z_sg, z_255, Int32.reduceToInt] <;> omega) | (simp only [Int32.le_iff_toInt_le, Int32.lt_iff_toInt_lt, z_eq, z_in, z_add, z_sub, z_mul, z_neg, z_nI, z_cl, z_sg, z_255, z_lit, Int32.reduceToInt] <;> omega))) (nm_e (sC _ _ _ 5 ⟨gI_at, by decide, by decide⟩ ed (Fg.trans fu (Fg.i ⟨rfl, by decide⟩))))
            · rw [if_neg c4] at ed
              refine br_t (by (first | omega | (simp (disch := omega) only [Int32.le_iff_toInt_le, Int32.lt_iff_toInt_lt, z_eq, z_in, nI_toInt, z_cl, z_m1, z_sg, z_255, Int32.reduceToInt] <;> omega) | (simp only [Int32.le_iff_toInt_le, Int32.lt_iff_toInt_lt, z_eq, z_in, z_add, z_sub, z_mul, z_neg, z_nI, z_cl, z_sg, z_255, z_lit, Int32.reduceToInt] <;> omega))) ?_
              unfold j_Mod_readWords_117
              refine ⟨fun w => absurd u4 w, fun _ => ?_⟩
              rw [show fI u 0 68 = nI st from (fu.1 0 68 (by decide)).trans h68]
              have Fu := fu.fi hF
              have u44 : fN u 44 = 1008 := Fu.1 44
              refine s_rns Fu u4 u3 (by omega) hst (by decide) (by omega) (by omega) (by omega) (fun e b b1 b2 b3 => ?_) (fun N q3 b b1 b2 b3 b4 b5 => ?_)
              · exact sD b _ _ e b3 (by rw [ed, b1]) (Fg.trans fu b2.vn)
              · rw [b1] at ed
                simp only at ed
                obtain ⟨r1, r2, r3, r4⟩ := rns_ok hT b1 (by omega)
                have fb : FrVn x b := Fg.trans fu b2.vn
                unfold j_Mod_readWords_139
                refine ⟨fun w => absurd b4 w, fun _ => ?_⟩
                rw [show fI b 0 68 = nI st from (fb.1 0 68 (by decide)).trans h68, b3]
                by_cases c6 : q3 < st
                · rw [if_pos c6] at ed
                  refine br_f (by (first | omega | (simp (disch := omega) only [Int32.le_iff_toInt_le, Int32.lt_iff_toInt_lt, z_eq, z_in, nI_toInt, z_cl, z_m1, z_sg, z_255, Int32.reduceToInt] <;> omega) | (simp only [Int32.le_iff_toInt_le, Int32.lt_iff_toInt_lt, z_eq, z_in, z_add, z_sub, z_mul, z_neg, z_nI, z_cl, z_sg, z_255, z_lit, Int32.reduceToInt] <;> omega))) (nm_e ?_)
                  unfold j_Mod_readWords_163
                  exact ⟨1, sE _ _ _ _ 6 0 ⟨gI_at, by decide, by decide⟩ ed (Fg.trans fb (Fg.i ⟨rfl, by decide⟩))⟩
                · rw [if_neg c6] at ed
                  refine br_t (by (first | omega | (simp (disch := omega) only [Int32.le_iff_toInt_le, Int32.lt_iff_toInt_lt, z_eq, z_in, nI_toInt, z_cl, z_m1, z_sg, z_255, Int32.reduceToInt] <;> omega) | (simp only [Int32.le_iff_toInt_le, Int32.lt_iff_toInt_lt, z_eq, z_in, z_add, z_sub, z_mul, z_neg, z_nI, z_cl, z_sg, z_255, z_lit, Int32.reduceToInt] <;> omega))) ?_
                  rw [dtx_w wt N [] (fun k hk => absurd hk (Nat.not_lt_zero _)), List.nil_append] at ed
                  have B32 : fL b 32 = fL z 32 := (b2.2.2.2.2.1 32 id).trans (u2.2.2.2.2.1 32 id)
                  have b59 : fI b 0 59 = nI d := (b2.1 0 59 (by decide)).trans ((u2.1 0 59 (by decide)).trans z59)
                  unfold j_Mod_readWords_163
                  have key2 : ∀ g k (t : St), k + g = m → Fg (fun o k => o = 0 ∧ k = 69) no2 no2 no1 (fun a => a = 31) b t → fI t 0 69 = 0 → (∀ j, j < k → N.getD j 0 < acc.length) → (∀ j, j < k → fL t 31 j = (pvd acc (N.getD j 0)).1) → wl_Mod_readWords_166 post (g + 1) (nI m) (lN d) (nI (T q1)) (nI k) t := by
                    intro g
                    induction g with
                    | zero =>
                      intro k t hk t1 t2 t3 t4
                      have ek : k = m := by omega
                      subst ek
                      unfold wl_Mod_readWords_166 j_Mod_readWords_166
                      have ft : FrVn x t := Fg.trans fb (t1.mono (fun _ _ w => ⟨w.1, by omega⟩) (fun _ _ w => w) (fun _ _ w => w) (fun _ w => w.elim) (fun _ w => Or.inl w))
                      rw [if_neg (fun w => by
                        obtain ⟨v, w1, w2⟩ := w
                        obtain ⟨j, hj, rfl⟩ := List.getElem_of_mem w1
                        have := t3 j (by omega)
                        rw [List.getD_eq_getElem?_getD, List.getElem?_eq_getElem hj] at this
                        have this : N[j] < acc.length := this
                        omega)] at ed
                      have len : (N.map (pvd acc)).length = k := by rw [List.length_map, r1]
                      refine br_t (by (first | omega | (simp (disch := omega) only [Int32.le_iff_toInt_le, Int32.lt_iff_toInt_lt, z_eq, z_in, nI_toInt, z_cl, z_m1, z_sg, z_255, Int32.reduceToInt] <;> omega) | (simp only [Int32.le_iff_toInt_le, Int32.lt_iff_toInt_lt, z_eq, z_in, z_add, z_sub, z_mul, z_neg, z_nI, z_cl, z_sg, z_255, z_lit, Int32.reduceToInt] <;> omega))) (pk _ acc q3 t ed ft t2 ((t1.1 0 67 (by decide)).trans b3) r4 (fun j hj => ?_) ⟨?_, by omega, fun j hj => ?_⟩ len)
                      · rw [len] at hj
                        rw [t4 j hj, pvd_map (by omega), List.getD_eq_getElem?_getD, List.getElem?_eq_getElem (by omega)]
                        rfl
                      · rw [show fI t 0 59 = nI d from (t1.1 0 59 (by decide)).trans b59]
                        congr 1
                        omega
                      · rw [show fL t 32 = fL b 32 from t1.2.2.2.2.1 32 (by decide), B32]
                        exact z5 j hj
                    | succ g ihg =>
                      intro k t hk t1 t2 t3 t4
                      have ft : FrVn x t := Fg.trans fb (t1.mono (fun _ _ w => ⟨w.1, by omega⟩) (fun _ _ w => w) (fun _ _ w => w) (fun _ w => w.elim) (fun _ w => Or.inl w))
                      have N3 : ∀ o, fN t o = fN x o := fun o => by show t.2.2.2.2.2 o = _; rw [ft.2.2.2.2.2]
                      have g31 := N3 31
                      have g32 := N3 32
                      have g44 := N3 44
                      have hkN : k < N.length := by omega
                      have nv : N.getD k 0 < 2 ^ 32 := by
                        have := r2 _ (getD_mem hkN)
                        have p32 : 2 ^ T q1 ≤ 2 ^ 32 := Nat.pow_le_pow_right (by decide) (by omega)
                        omega
                      have bad : acc.length ≤ N.getD k 0 → j_Mod_readWords_202 post (wl_Mod_readWords_166 post (g + 1)) (nI m) (lN d) (nI (T q1)) (nI k) t := fun cv => by
                        rw [if_pos ⟨N.getD k 0, getD_mem hkN, cv⟩] at ed
                        unfold j_Mod_readWords_202 j_Mod_readWords_230
                        exact nm_e (sE _ _ _ _ 7 g ⟨gI_at, by decide, by decide⟩ ed (Fg.trans ft (Fg.i ⟨rfl, by decide⟩)))
                      unfold wl_Mod_readWords_166 j_Mod_readWords_166
                      refine br_f (by (first | omega | (simp (disch := omega) only [Int32.le_iff_toInt_le, Int32.lt_iff_toInt_lt, z_eq, z_in, nI_toInt, z_cl, z_m1, z_sg, z_255, Int32.reduceToInt] <;> omega) | (simp only [Int32.le_iff_toInt_le, Int32.lt_iff_toInt_lt, z_eq, z_in, z_add, z_sub, z_mul, z_neg, z_nI, z_cl, z_sg, z_255, z_lit, Int32.reduceToInt] <;> omega))) ⟨fun w => absurd t2 w, fun _ => ⟨vp_in_nI (by omega) (by omega), ?_⟩⟩
                      rw [rA_nI (by omega), show fA t 44 = fA b 44 from t1.2.2.2.1 44 id, b5 k (by omega)]
                      by_cases cneg : nI (N.getD k 0) < 0
                      · refine br_t cneg (bad ?_)
                        rcases Nat.lt_or_ge (N.getD k 0) acc.length with z | z
                        · exact absurd cneg (nI_pos (by omega))
                        · exact z
                      · have vlt : N.getD k 0 < 2 ^ 31 := Classical.byContradiction (fun z => cneg (nI_big (by omega) nv))
                        refine br_f cneg ⟨vp_in_nI (by omega) (by omega), ?_⟩
                        rw [show (nI (N.getD k 0)).toInt64 = lN (N.getD k 0) from nI_l (by omega), lg_cmp_lt, lN_lt2 (by omega) (by omega)]
                        by_cases cv : N.getD k 0 < d
                        · refine br_t cv ⟨vp_in_nI (by omega) (by omega), vp_in_nI (by omega) (by omega), vp_in_nI (by omega) (by omega), nm_e ?_⟩
                          rw [rL_nI (by omega), show fL t 32 = fL b 32 from t1.2.2.2.2.1 32 (by decide), B32, z5 _ (by omega)]
                          unfold j_Mod_readWords_230
                          rw [nI_1]
                          refine ihg (k + 1) _ (by omega) (Fg.trans t1 (Fg.l rfl)) t2 (fun j hj => ?_) (fun j hj => ?_)
                          · by_cases ej : j = k
                            · rw [ej]; omega
                            · exact t3 j (by omega)
                          · rw [gL_at, nI_clamp (by omega)]
                            by_cases ej : j = k
                            · rw [ej, updL_at]
                            · rw [updL_ne ej]; exact t4 j (by omega)
                        · exact br_f cv (bad (by omega))
                  exact ⟨m + 1, key2 m 0 b (by omega) (Fg.refl b) b4 (fun j hj => absurd hj (Nat.not_lt_zero _)) (fun j hj => absurd hj (Nat.not_lt_zero _))⟩
        | succ dd ihd =>
          intro acc q1 z hd z1 z2 z3 z4 z59 z5 z6
          have e6 : wplF T ty st d [] q = (match fxd T (wid ty) st q1 with | .error e => .error e | .ok (v, q2) => wplF T ty st dd (acc ++ [(whV ty v, [])]) q2) := by
            rw [z6]; simp only [wplF]
            cases fxd T (wid ty) st q1 <;> rfl
          unfold wl_Mod_readWords_54 j_Mod_readWords_54
          refine br_f (by rw [show (nI acc.length).toInt64 = lN acc.length from nI_l (by omega), lg_cmp_ge, lN_le2 (by omega) (by omega)]; omega) ⟨fun w => absurd z2 w, fun _ => ?_⟩
          refine s_whole (z1.fi hF) z2 z3 ((z1.1 0 68 (by decide)).trans h68) ((z1.1 0 38 (by decide)).trans h38) hty z4 hst (fun e u u1 u2 u3 v => ?_) (fun v q2 u u1 u2 u3 u4 => ?_)
          · have n32 : fN u 32 = 1000 := by show u.2.2.2.2.2 32 = _; rw [u2.2.2.2.2.2]; show z.2.2.2.2.2 32 = _; rw [z1.2.2.2.2.2]; exact e32
            refine ⟨vp_in_nI (by omega) (by omega), nm_e ?_⟩
            rw [u1] at e6
            rw [e6] at ed
            exact sA _ _ _ e dd u3 ed (Fg.trans z1 (Fg.trans u2.vn (Fg.l (Or.inr (Or.inl rfl)))))
          · have n32 : fN u 32 = 1000 := by show u.2.2.2.2.2 32 = _; rw [u2.2.2.2.2.2]; show z.2.2.2.2.2 32 = _; rw [z1.2.2.2.2.2]; exact e32
            refine ⟨vp_in_nI (by omega) (by omega), nm_e ?_⟩
            rw [u1] at e6
            have e1 : (acc ++ [((whV ty v : Int64), ([] : List Int32))]).length = acc.length + 1 := by rw [List.length_append]; rfl
            have := ihd (acc ++ [(whV ty v, [])]) q2 (setL u 32 (nI acc.length) (whV ty v)) (by omega) (Fg.trans z1 (Fg.trans u2.vn (Fg.l (Or.inr (Or.inl rfl))))) u4 u3 (fxd_ok hT u1).2.1 ((u2.1 0 59 (by decide)).trans z59) (fun k hk => ?_) e6
            · rw [e1] at this
              rw [nI_1]
              exact this
            · rw [e1] at hk
              rw [gL_at, nI_clamp (by omega)]
              by_cases e : k = acc.length
              · rw [e, updL_at, pv_last]
              · rw [updL_ne e, pvd_a1 (by omega), show fL u 32 = fL z 32 from u2.2.2.2.2.1 32 id]
                exact z5 k (by omega)
      exact ⟨d + 1, key d [] q _ (by rw [List.length_nil]; omega) (Fg.trans y2.vn (Fg.i ⟨rfl, by decide⟩)) ((gI_ne (by decide)).trans y4) ((gI_ne (by decide)).trans y3) v3 gI_at (fun k hk => absurd hk (Nat.not_lt_zero _)) rfl⟩
end
