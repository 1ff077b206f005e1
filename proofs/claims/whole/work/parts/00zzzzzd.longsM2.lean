/-! the model reads a CODE: blocks and all -/
section
variable {x : St} {T : Nat → Nat} {n st p : Nat}
theorem vrd_err {e : Nat} (h : vrd T st p = .error e) : 0 < e ∧ e < 100 := by
  have key : ∀ d k a p, vrF T st d k a p = .error e → 0 < e ∧ e < 100 := by
    intro d
    induction d with
    | zero => intro k a p h; simp only [vrF, Except.error.injEq] at h; omega
    | succ d ih =>
      intro k a p h
      simp only [vrF] at h
      split at h
      · simp only [Except.error.injEq] at h; omega
      · split at h
        · simp only [Except.error.injEq] at h; omega
        · split at h
          · exact absurd h (by simp)
          · exact ih _ _ _ h
  exact key _ _ _ _ h
theorem s_blk {post : St → Prop} {first last : Nat} {acc : List Int64} (hF : FiM x T n) (h0 : fI x 0 69 = 0) (hp : fI x 0 67 = nI p) (hps : p ≤ st) (hst : st ≤ n) (hfl : first < last) (hl : last ≤ 1999) (hl2 : last ≤ first + 64) (hacc : acc.length = first + 1) (hL : LgL x acc)
    (pe : ∀ e y, blkR T st first last acc p = .error e → FrRl x y → Flt y e → post y)
    (pk : ∀ L q y, blkR T st first last acc p = .ok (L, q) → FrRl x y → fI y 0 69 = 0 → fI y 0 67 = nI q → LgL y L → post y) : wp_Mod_readBlock post (nI first) (nI last) (nI st) x := by
  have hn := hF.2.1
  have hT := hF.2.2.1
  unfold wp_Mod_readBlock
  refine s_vrd hF h0 hp hps hst (fun e y y1 y2 y3 => ?_) (fun v q y y1 y2 y3 y4 => ?_)
  · -- the least difference can't be read
    have eb : blkR T st first last acc p = .error e := by unfold blkR; rw [y1]
    rw [show (0 : Int64) = lN 0 from rfl]
    refine s_uz (by decide) (nm_e ⟨1, ?_⟩)
    unfold wl_Mod_readBlock_19 j_Mod_readBlock_19
    refine br_f (by decide) ⟨fun _ => ?_, fun z => absurd z y3.ne⟩
    unfold j_Mod_readBlock_106
    refine ⟨1, ?_⟩
    unfold wl_Mod_readBlock_109 j_Mod_readBlock_109
    exact br_f (by decide) ⟨fun _ => pe e y eb y2.rl y3, fun z => absurd z y3.ne⟩
  · obtain ⟨v1, v2, v3⟩ := vrd_ok hT y1
    have eb : blkR T st first last acc p = (match wdF T st first last 4 0 q with | .error e => .error e | .ok (_, q2) => ptF T st first last q (uz v) 4 0 acc q2) := by
      unfold blkR; rw [y1]
      simp only
      cases wdF T st first last 4 0 q <;> rfl
    refine s_uz v1 (nm_r y3 ?_)
    have stop : ∀ (z : St) (i : Int32) e, Flt z e → blkR T st first last acc p = .error e → FrRl x z → ∃ m : Nat, wl_Mod_readBlock_109 post m (nI first) (nI last) (nI st) (uz v) (nI q) i z := fun z i e hf he hz => by
      refine ⟨1, ?_⟩
      unfold wl_Mod_readBlock_109 j_Mod_readBlock_109
      by_cases c : 4 ≤ i
      · exact br_t c (pe e z he hz hf)
      · exact br_f c ⟨fun _ => pe e z he hz hf, fun w => absurd w hf.ne⟩
    -- the parts
    have parts : ∀ d i acc' p' (z : St), i + d = 4 → FrRl x z → FiM z T n → fI z 0 69 = 0 → fI z 0 67 = nI p' → p' ≤ st → blkR T st first last acc p = ptF T st first last q (uz v) d i acc' p' → acc'.length = 1 + min last (first + 16 * i) → LgL z acc' → (∀ j, j < 4 → q + j < st ∧ T (q + j) ≤ 64) → wl_Mod_readBlock_109 post (d + 1) (nI first) (nI last) (nI st) (uz v) (nI q) (nI i) z := by
      intro d
      induction d with
      | zero =>
        intro i acc' p' z hi z1 z2 z3 z4 z5 z6 z7 z8 z9
        have e4 : i = 4 := by omega
        subst e4
        unfold wl_Mod_readBlock_109 j_Mod_readBlock_109
        exact br_t (by decide) (pk acc' p' z z6 z1 z3 z4 z8)
      | succ d ih =>
        intro i acc' p' z hi z1 z2 z3 z4 z5 z6 z7 z8 z9
        have z41 : fN z 41 = 40000 := z2.1 41
        unfold wl_Mod_readBlock_109 j_Mod_readBlock_109
        refine br_f (by (first | omega | (simp (disch := omega) only [Int32.le_iff_toInt_le, Int32.lt_iff_toInt_lt, z_eq, z_in, nI_toInt, z_cl, z_m1, z_sg, z_255, Int32.reduceToInt] <;> omega) | (simp only [Int32.le_iff_toInt_le, Int32.lt_iff_toInt_lt, z_eq, z_in, z_add, z_sub, z_mul, z_neg, z_nI, z_cl, z_sg, z_255, z_lit, Int32.reduceToInt] <;> omega))) ⟨fun w => absurd z3 w, fun _ => ?_⟩
        rw [show nI first + (16 * nI i) = nI (first + 16 * i) from by rw [show (16 : Int32) = nI 16 from rfl, nI_mul, nI_add]]
        by_cases c1 : last ≤ first + 16 * i
        · refine br_t (by (first | omega | (simp (disch := omega) only [Int32.le_iff_toInt_le, Int32.lt_iff_toInt_lt, z_eq, z_in, nI_toInt, z_cl, z_m1, z_sg, z_255, Int32.reduceToInt] <;> omega) | (simp only [Int32.le_iff_toInt_le, Int32.lt_iff_toInt_lt, z_eq, z_in, z_add, z_sub, z_mul, z_neg, z_nI, z_cl, z_sg, z_255, z_lit, Int32.reduceToInt] <;> omega))) (pk acc' p' z ?_ z1 z3 z4 z8)
          rw [z6]
          simp only [ptF]
          rw [if_pos c1]
        · obtain ⟨g1, g2⟩ := z9 i (by omega)
          have hTi := hT (q + i)
          refine br_f (by (first | omega | (simp (disch := omega) only [Int32.le_iff_toInt_le, Int32.lt_iff_toInt_lt, z_eq, z_in, nI_toInt, z_cl, z_m1, z_sg, z_255, Int32.reduceToInt] <;> omega) | (simp only [Int32.le_iff_toInt_le, Int32.lt_iff_toInt_lt, z_eq, z_in, z_add, z_sub, z_mul, z_neg, z_nI, z_cl, z_sg, z_255, z_lit, Int32.reduceToInt] <;> omega))) ?_
          rw [nI_add]
          refine ⟨vp_in_nI (by omega) (by omega), nm_r (e' := nI (T (q + i))) (by rw [rA_nI (by omega)]; exact z2.2.2.2 _ (by omega)) ?_⟩
          rw [show (2 : Int32) * nI (T (q + i)) = nI (2 * T (q + i)) from by rw [show (2 : Int32) = nI 2 from rfl, nI_mul], z4, nI_sub z5]
          have ep : blkR T st first last acc p = (if st < p' + 2 * T (q + i) then .error 1 else if ∃ k, k < 16 ∧ last ≤ first + 16 * i + k ∧ bsN T p' (T (q + i) * k) (T (q + i)) ≠ 0 then .error 5 else ptF T st first last q (uz v) d (i + 1) (exL T p' (T (q + i)) (uz v) (min 16 (last - (first + 16 * i))) acc') (p' + 2 * T (q + i))) := by
            rw [z6]
            simp only [ptF]
            rw [if_neg c1]
          by_cases c2 : st < p' + 2 * T (q + i)
          · rw [if_pos c2] at ep
            refine br_f (by (first | omega | (simp (disch := omega) only [Int32.le_iff_toInt_le, Int32.lt_iff_toInt_lt, z_eq, z_in, nI_toInt, z_cl, z_m1, z_sg, z_255, Int32.reduceToInt] <;> omega) | (simp only [Int32.le_iff_toInt_le, Int32.lt_iff_toInt_lt, z_eq, z_in, z_add, z_sub, z_mul, z_neg, z_nI, z_cl, z_sg, z_255, z_lit, Int32.reduceToInt] <;> omega))) (nm_e ?_)
            unfold j_Mod_readBlock_163
            refine ⟨1, ?_⟩
            unfold wl_Mod_readBlock_166 j_Mod_readBlock_166
            refine br_f (by decide) ⟨fun _ => ?_, fun w => absurd gI_at w⟩
            unfold j_Mod_readBlock_305
            refine nm_e ?_
            have fl : Flt (setI (setI z 0 69 1) 0 67 (fI (setI z 0 69 1) 0 67 + 2 * nI (T (q + i)))) 1 := ⟨(gI_ne (by decide)).trans gI_at, by decide, by decide⟩
            unfold wl_Mod_readBlock_109
            have hz : FrRl x (setI (setI z 0 69 1) 0 67 (fI (setI z 0 69 1) 0 67 + 2 * nI (T (q + i)))) := Fg.trans z1 (Fg.trans (Fg.i ⟨rfl, by decide⟩) (Fg.i ⟨rfl, by decide⟩))
            cases d with
            | zero =>
              show j_Mod_readBlock_109 post _ _ _ _ _ _ _ _
              unfold j_Mod_readBlock_109
              by_cases c : (4 : Int32) ≤ nI i + 1
              · exact br_t c (pe 1 _ ep hz fl)
              · exact br_f c ⟨fun _ => pe 1 _ ep hz fl, fun w => absurd w fl.ne⟩
            | succ d =>
              show j_Mod_readBlock_109 post _ _ _ _ _ _ _ _
              unfold j_Mod_readBlock_109
              by_cases c : (4 : Int32) ≤ nI i + 1
              · exact br_t c (pe 1 _ ep hz fl)
              · exact br_f c ⟨fun _ => pe 1 _ ep hz fl, fun w => absurd w fl.ne⟩
          · rw [if_neg c2] at ep
            refine br_t (by (first | omega | (simp (disch := omega) only [Int32.le_iff_toInt_le, Int32.lt_iff_toInt_lt, z_eq, z_in, nI_toInt, z_cl, z_m1, z_sg, z_255, Int32.reduceToInt] <;> omega) | (simp only [Int32.le_iff_toInt_le, Int32.lt_iff_toInt_lt, z_eq, z_in, z_add, z_sub, z_mul, z_neg, z_nI, z_cl, z_sg, z_255, z_lit, Int32.reduceToInt] <;> omega))) ?_
            refine s_part z2 z3 z4 (by omega) hst g2 (by omega) (by omega) hl (by omega) z8 (fun u u1 u2 u3 => ?_) (fun u u1 u2 u3 u4 u5 => ?_)
            · rw [if_pos u1] at ep
              have hz : FrRl x u := Fg.trans z1 u2
              unfold wl_Mod_readBlock_109
              cases d with
              | zero =>
                show j_Mod_readBlock_109 post _ _ _ _ _ _ _ _
                unfold j_Mod_readBlock_109
                by_cases c : (4 : Int32) ≤ nI (i + 1)
                · exact br_t c (pe 5 _ ep hz u3)
                · exact br_f c ⟨fun _ => pe 5 _ ep hz u3, fun w => absurd w u3.ne⟩
              | succ d =>
                show j_Mod_readBlock_109 post _ _ _ _ _ _ _ _
                unfold j_Mod_readBlock_109
                by_cases c : (4 : Int32) ≤ nI (i + 1)
                · exact br_t c (pe 5 _ ep hz u3)
                · exact br_f c ⟨fun _ => pe 5 _ ep hz u3, fun w => absurd w u3.ne⟩
            · rw [if_neg u1] at ep
              exact ih (i + 1) _ _ u (by omega) (Fg.trans z1 u2) (u2.fi z2) u3 u4 (by omega) ep (by rw [exL_len]; omega) u5 z9
    -- the widths
    have widths : ∀ d i (z : St), i + d = 4 → FrRd y z → fI z 0 69 = 0 → fI z 0 67 = nI (q + i) → (d ≠ 0 ∨ q + i ≤ st) → (blkR T st first last acc p = match wdF T st first last d i (q + i) with | .error e => .error e | .ok (_, q2) => ptF T st first last q (uz v) 4 0 acc q2) → (∀ j, j < i → q + j < st ∧ T (q + j) ≤ 64) → wl_Mod_readBlock_19 post (d + 1) (nI first) (nI last) (nI st) (uz v) (nI q) (nI i) z := by
      intro d
      induction d with
      | zero =>
        intro i z hi z1 z2 z3 z4 z5 z6
        have e4 : i = 4 := by omega
        subst e4
        have fz : FrRd x z := Fg.trans y2 z1
        have Fz := fz.fi hF
        have lz : LgL z acc := fun i hi => by
          show z.2.2.2.2.1 43 i = _
          rw [fz.2.2.2.2.1 43 id]
          exact hL i hi
        unfold wl_Mod_readBlock_19 j_Mod_readBlock_19
        refine br_t (by decide) ?_
        unfold j_Mod_readBlock_106
        simp only [wdF] at z5
        exact ⟨5, parts 4 0 acc (q + 4) z rfl fz.rl Fz z2 z3 (by have := (z6 3 (by decide)).1; omega) z5 (by omega) lz z6⟩
      | succ d ih =>
        intro i z hi z1 z2 z3 z4 z5 z6
        have fz : FrRd x z := Fg.trans y2 z1
        have Fz := fz.fi hF
        have z41 : fN z 41 = 40000 := Fz.1 41
        have hTi := hT (q + i)
        have bad : ∀ e, 0 < e → e < 100 → wdF T st first last (d + 1) i (q + i) = .error e → j_Mod_readBlock_90 post (wl_Mod_readBlock_19 post (d + 1)) (nI first) (nI last) (nI st) (uz v) (nI q) (nI i) (setI z 0 69 (nI e)) := fun e e1 e2 ew => by
          rw [ew] at z5
          unfold j_Mod_readBlock_90
          refine nm_e ?_
          have fl : Flt (setI (setI z 0 69 (nI e)) 0 67 (fI (setI z 0 69 (nI e)) 0 67 + 1)) e := ⟨(gI_ne (by decide)).trans gI_at, e1, e2⟩
          have hz : FrRl x (setI (setI z 0 69 (nI e)) 0 67 (fI (setI z 0 69 (nI e)) 0 67 + 1)) := Fg.trans fz.rl (Fg.trans (Fg.i ⟨rfl, by decide⟩) (Fg.i ⟨rfl, by decide⟩))
          unfold wl_Mod_readBlock_19 j_Mod_readBlock_19
          by_cases c : (4 : Int32) ≤ nI i + 1
          · refine br_t c ?_
            unfold j_Mod_readBlock_106
            exact stop _ _ e fl z5 hz
          · refine br_f c ⟨fun _ => ?_, fun w => absurd w fl.ne⟩
            unfold j_Mod_readBlock_106
            exact stop _ _ e fl z5 hz
        unfold wl_Mod_readBlock_19 j_Mod_readBlock_19
        refine br_f (by (first | omega | (simp (disch := omega) only [Int32.le_iff_toInt_le, Int32.lt_iff_toInt_lt, z_eq, z_in, nI_toInt, z_cl, z_m1, z_sg, z_255, Int32.reduceToInt] <;> omega) | (simp only [Int32.le_iff_toInt_le, Int32.lt_iff_toInt_lt, z_eq, z_in, z_add, z_sub, z_mul, z_neg, z_nI, z_cl, z_sg, z_255, z_lit, Int32.reduceToInt] <;> omega))) ⟨fun w => absurd z2 w, fun _ => ?_⟩
        rw [z3]
        by_cases c1 : q + i < st
        · refine br_t (by (first | omega | (simp (disch := omega) only [Int32.le_iff_toInt_le, Int32.lt_iff_toInt_lt, z_eq, z_in, nI_toInt, z_cl, z_m1, z_sg, z_255, Int32.reduceToInt] <;> omega) | (simp only [Int32.le_iff_toInt_le, Int32.lt_iff_toInt_lt, z_eq, z_in, z_add, z_sub, z_mul, z_neg, z_nI, z_cl, z_sg, z_255, z_lit, Int32.reduceToInt] <;> omega))) ⟨vp_in_nI (by omega) (by omega), ?_⟩
          rw [rA_nI (by omega), Fz.2.2.2 _ (by omega)]
          have five : 64 < T (q + i) ∨ 0 < T (q + i) ∧ last ≤ first + 16 * i → j_Mod_readBlock_85 post (wl_Mod_readBlock_19 post (d + 1)) (nI first) (nI last) (nI st) (uz v) (nI q) (nI i) z := fun w => by
            unfold j_Mod_readBlock_85
            exact nm_e (bad 5 (by decide) (by decide) (by simp only [wdF]; rw [if_neg (by omega), if_pos w]))
          have ok : ¬ (64 < T (q + i) ∨ 0 < T (q + i) ∧ last ≤ first + 16 * i) → j_Mod_readBlock_90 post (wl_Mod_readBlock_19 post (d + 1)) (nI first) (nI last) (nI st) (uz v) (nI q) (nI i) z := fun w => by
            unfold j_Mod_readBlock_90
            rw [z3, nI_1, nI_1]
            refine nm_e (ih (i + 1) _ (by omega) (Fg.trans z1 (Fg.i ⟨rfl, by decide⟩)) ((gI_ne (by decide)).trans z2) gI_at (Or.inr (by omega)) ?_ (fun j hj => ?_))
            · rw [z5]
              simp only [wdF]
              rw [if_neg (by omega), if_neg w]
              rfl
            · by_cases ej : j = i
              · rw [ej]; exact ⟨c1, by omega⟩
              · exact z6 j (by omega)
          by_cases c2 : 64 < T (q + i)
          · exact br_t (by (first | omega | (simp (disch := omega) only [Int32.le_iff_toInt_le, Int32.lt_iff_toInt_lt, z_eq, z_in, nI_toInt, z_cl, z_m1, z_sg, z_255, Int32.reduceToInt] <;> omega) | (simp only [Int32.le_iff_toInt_le, Int32.lt_iff_toInt_lt, z_eq, z_in, z_add, z_sub, z_mul, z_neg, z_nI, z_cl, z_sg, z_255, z_lit, Int32.reduceToInt] <;> omega))) (five (Or.inl c2))
          · refine br_f (by (first | omega | (simp (disch := omega) only [Int32.le_iff_toInt_le, Int32.lt_iff_toInt_lt, z_eq, z_in, nI_toInt, z_cl, z_m1, z_sg, z_255, Int32.reduceToInt] <;> omega) | (simp only [Int32.le_iff_toInt_le, Int32.lt_iff_toInt_lt, z_eq, z_in, z_add, z_sub, z_mul, z_neg, z_nI, z_cl, z_sg, z_255, z_lit, Int32.reduceToInt] <;> omega))) ⟨vp_in_nI (by omega) (by omega), ?_⟩
            by_cases c3 : T (q + i) = 0
            · exact br_t (by rw [c3]; decide) (ok (fun w => by omega))
            · refine br_f (by (first | omega | (simp (disch := omega) only [Int32.le_iff_toInt_le, Int32.lt_iff_toInt_lt, z_eq, z_in, nI_toInt, z_cl, z_m1, z_sg, z_255, Int32.reduceToInt] <;> omega) | (simp only [Int32.le_iff_toInt_le, Int32.lt_iff_toInt_lt, z_eq, z_in, z_add, z_sub, z_mul, z_neg, z_nI, z_cl, z_sg, z_255, z_lit, Int32.reduceToInt] <;> omega))) ?_
              rw [show nI first + (16 * nI i) = nI (first + 16 * i) from by rw [show (16 : Int32) = nI 16 from rfl, nI_mul, nI_add]]
              by_cases c4 : first + 16 * i < last
              · exact br_t (by (first | omega | (simp (disch := omega) only [Int32.le_iff_toInt_le, Int32.lt_iff_toInt_lt, z_eq, z_in, nI_toInt, z_cl, z_m1, z_sg, z_255, Int32.reduceToInt] <;> omega) | (simp only [Int32.le_iff_toInt_le, Int32.lt_iff_toInt_lt, z_eq, z_in, z_add, z_sub, z_mul, z_neg, z_nI, z_cl, z_sg, z_255, z_lit, Int32.reduceToInt] <;> omega))) (ok (fun w => by omega))
              · exact br_f (by (first | omega | (simp (disch := omega) only [Int32.le_iff_toInt_le, Int32.lt_iff_toInt_lt, z_eq, z_in, nI_toInt, z_cl, z_m1, z_sg, z_255, Int32.reduceToInt] <;> omega) | (simp only [Int32.le_iff_toInt_le, Int32.lt_iff_toInt_lt, z_eq, z_in, z_add, z_sub, z_mul, z_neg, z_nI, z_cl, z_sg, z_255, z_lit, Int32.reduceToInt] <;> omega))) (five (Or.inr ⟨by omega, by omega⟩))
        · exact br_f (by (first | omega | (simp (disch := omega) only [Int32.le_iff_toInt_le, Int32.lt_iff_toInt_lt, z_eq, z_in, nI_toInt, z_cl, z_m1, z_sg, z_255, Int32.reduceToInt] <;> omega) | (simp only [Int32.le_iff_toInt_le, Int32.lt_iff_toInt_lt, z_eq, z_in, z_add, z_sub, z_mul, z_neg, z_nI, z_cl, z_sg, z_255, z_lit, Int32.reduceToInt] <;> omega))) (nm_e (bad 1 (by decide) (by decide) (by simp only [wdF]; rw [if_pos (by omega)])))
    exact ⟨5, widths 4 0 y rfl (Fg.refl y) y4 y3 (Or.inl (by decide)) eb (fun j hj => absurd hj (Nat.not_lt_zero _))⟩
theorem bksF_fuel {m : Nat} : ∀ d e first acc p, m - 1 ≤ first + 64 * d → m - 1 ≤ first + 64 * e → bksF T st m d first acc p = bksF T st m e first acc p := by
  intro d
  induction d with
  | zero =>
    intro e first acc p h1 h2
    cases e with
    | zero => rfl
    | succ e => simp only [bksF]; rw [if_pos (by omega)]
  | succ d ih =>
    intro e first acc p h1 h2
    cases e with
    | zero => simp only [bksF]; rw [if_pos (by omega)]
    | succ e =>
      simp only [bksF]
      by_cases c : m - 1 ≤ first
      · rw [if_pos c, if_pos c]
      · rw [if_neg c, if_neg c]
        cases blkR T st first (min (first + 64) (m - 1)) acc p with
        | error e => rfl
        | ok w =>
          obtain ⟨a, q⟩ := w
          exact ih _ _ _ _ (by omega) (by omega)
theorem s_lgs {post : St → Prop} {due : Nat} (hF : FiM x T n) (h0 : fI x 0 69 = 0) (hp : fI x 0 67 = nI p) (hps : p ≤ st) (hst : st ≤ n) (hd : due ≤ 2000)
    (pe : ∀ e y, lgs T due st p = .error e → FrRg x y → Flt y e → post y)
    (pk : ∀ L q y, lgs T due st p = .ok (L, q) → FrRg x y → fI y 0 69 = 0 → fI y 0 67 = nI q → LgL y L → post y) : wp_Mod_readLongs post (nI due) (nI st) x := by
  have hn := hF.2.1
  have hT := hF.2.2.1
  unfold wp_Mod_readLongs
  refine s_vrd hF h0 hp hps hst (fun e y y1 y2 y3 => ?_) (fun m q y y1 y2 y3 y4 => ?_)
  · refine ⟨fun _ => ?_, fun z => absurd z y3.ne⟩
    unfold j_Mod_readLongs_32
    exact ⟨fun z => absurd z y3.ne, fun _ => pe e y (by unfold lgs; rw [y1]) y2.rl.g y3⟩
  · obtain ⟨v1, v2, v3⟩ := vrd_ok hT y1
    have Fy := y2.fi hF
    refine ⟨fun z => absurd y4 z, fun _ => ?_⟩
    have big : 2000 < m → j_Mod_readLongs_27 post (nI due) (nI st) (lN m) y := fun c => by
      unfold j_Mod_readLongs_27 j_Mod_readLongs_32
      have fl : Flt (setI y 0 69 4) 4 := ⟨gI_at, by decide, by decide⟩
      exact nm_e ⟨fun z => absurd z fl.ne, fun _ => pe 4 _ (by unfold lgs; rw [y1]; simp only; rw [if_pos c]) (Fg.trans y2.rl.g (Fg.i ⟨rfl, by decide⟩)) fl⟩
    have small : m ≤ 2000 → j_Mod_readLongs_32 post (nI due) (nI st) (lN m) y := fun c => by
      have el : lgs T due st p = (match (if m = 0 then (.ok ([], q) : Rd (List Int64)) else match vrd T st q with
          | .error e => .error e
          | .ok (z, q1) => bksF T st m m 0 [uz z] q1) with
        | .error e => .error e
        | .ok (L, q2) => if q2 < st then .error 6 else if m ≠ due then .error 4 else .ok (L, q2)) := by
        unfold lgs; rw [y1]; simp only; rw [if_neg (by omega)]
        cases (if m = 0 then (.ok ([], q) : Rd (List Int64)) else match vrd T st q with
          | .error e => .error e
          | .ok (z, q1) => bksF T st m m 0 [uz z] q1) <;> rfl
      -- the end
      have fin : ∀ (z : St) (l5 : Int32) (r : Rd (List Int64)), FrRg x z → fI z 0 71 = nI m → (lgs T due st p = match r with | .error e => .error e | .ok (L, q2) => if q2 < st then .error 6 else if m ≠ due then .error 4 else .ok (L, q2)) → (∀ e, r = .error e → Flt z e) → (∀ L q2, r = .ok (L, q2) → fI z 0 69 = 0 ∧ fI z 0 67 = nI q2 ∧ q2 ≤ st ∧ LgL z L) → j_Mod_readLongs_129 post (nI due) (nI st) (lN m) l5 z := fun z l5 r z1 z71 z2 z3 z4 => by
        unfold j_Mod_readLongs_129 j_Mod_readLongs_150
        cases r with
        | error e =>
          have fl := z3 e rfl
          exact ⟨fun _ => ⟨fun _ => pe e z z2 z1 fl, fun w => absurd w fl.ne⟩, fun w => absurd w fl.ne⟩
        | ok w =>
          obtain ⟨L, q2⟩ := w
          obtain ⟨a1, a2, a3, a4⟩ := z4 L q2 rfl
          simp only at z2
          refine ⟨fun w => absurd a1 w, fun _ => ?_⟩
          rw [a2]
          by_cases c6 : q2 < st
          · rw [if_pos c6] at z2
            refine br_f (by (first | omega | (simp (disch := omega) only [Int32.le_iff_toInt_le, Int32.lt_iff_toInt_lt, z_eq, z_in, nI_toInt, z_cl, z_m1, z_sg, z_255, Int32.reduceToInt] <;> omega) | (simp only [Int32.le_iff_toInt_le, Int32.lt_iff_toInt_lt, z_eq, z_in, z_add, z_sub, z_mul, z_neg, z_nI, z_cl, z_sg, z_255, z_lit, Int32.reduceToInt] <;> omega))) (nm_e ?_)
            have fl : Flt (setI z 0 69 6) 6 := ⟨gI_at, by decide, by decide⟩
            exact ⟨fun _ => pe 6 _ z2 (Fg.trans z1 (Fg.i ⟨rfl, by decide⟩)) fl, fun w => absurd w fl.ne⟩
          · rw [if_neg c6] at z2
            refine br_t (by (first | omega | (simp (disch := omega) only [Int32.le_iff_toInt_le, Int32.lt_iff_toInt_lt, z_eq, z_in, nI_toInt, z_cl, z_m1, z_sg, z_255, Int32.reduceToInt] <;> omega) | (simp only [Int32.le_iff_toInt_le, Int32.lt_iff_toInt_lt, z_eq, z_in, z_add, z_sub, z_mul, z_neg, z_nI, z_cl, z_sg, z_255, z_lit, Int32.reduceToInt] <;> omega))) ⟨fun w => absurd a1 w, fun _ => ?_⟩
            rw [z71]
            by_cases cd : m = due
            · rw [if_neg (fun w => w cd)] at z2
              exact br_t (by rw [cd]) (pk L q2 z z2 z1 a1 a2 a4)
            · rw [if_pos cd] at z2
              refine br_f (fun w => cd (nI_inj (by omega) (by omega) w)) (nm_e ?_)
              exact pe 4 _ z2 (Fg.trans z1 (Fg.i ⟨rfl, by decide⟩)) ⟨gI_at, by decide, by decide⟩
      -- the blocks
      have blocks : ∀ d first acc q1 (z : St), m - 1 ≤ first + 64 * d → FrRg x z → FiM z T n → fI z 0 71 = nI m → fI z 0 69 = 0 → fI z 0 67 = nI q1 → q1 ≤ st → LgL z acc → 1 ≤ m → first ≤ 4000 → acc.length = 1 + min first (m - 1) → (lgs T due st p = match bksF T st m d first acc q1 with | .error e => .error e | .ok (L, q2) => if q2 < st then .error 6 else if m ≠ due then .error 4 else .ok (L, q2)) → wl_Mod_readLongs_70 post (d + 2) (nI due) (nI st) (lN m) (nI first) z := by
        intro d
        induction d with
        | zero =>
          intro first acc q1 z hd2 z1 z2 z71 z3 z4 z5 z6 hm hf hacc z7
          unfold wl_Mod_readLongs_70 j_Mod_readLongs_70
          rw [z71, show nI m - 1 = nI (m - 1) from by rw [show (1 : Int32) = nI 1 from rfl, nI_sub hm]]
          exact br_t (by (first | omega | (simp (disch := omega) only [Int32.le_iff_toInt_le, Int32.lt_iff_toInt_lt, z_eq, z_in, nI_toInt, z_cl, z_m1, z_sg, z_255, Int32.reduceToInt] <;> omega) | (simp only [Int32.le_iff_toInt_le, Int32.lt_iff_toInt_lt, z_eq, z_in, z_add, z_sub, z_mul, z_neg, z_nI, z_cl, z_sg, z_255, z_lit, Int32.reduceToInt] <;> omega))) (fin z _ (.ok (acc, q1)) z1 z71 z7 (fun e he => absurd he (by simp)) (fun L q2 hL => by simp only [Except.ok.injEq, Prod.mk.injEq] at hL; rw [← hL.1, ← hL.2]; exact ⟨z3, z4, z5, z6⟩))
        | succ d ih =>
          intro first acc q1 z hd2 z1 z2 z71 z3 z4 z5 z6 hm hf hacc z7
          unfold wl_Mod_readLongs_70 j_Mod_readLongs_70
          rw [z71, show nI m - 1 = nI (m - 1) from by rw [show (1 : Int32) = nI 1 from rfl, nI_sub hm]]
          by_cases c1 : m - 1 ≤ first
          · refine br_t (by (first | omega | (simp (disch := omega) only [Int32.le_iff_toInt_le, Int32.lt_iff_toInt_lt, z_eq, z_in, nI_toInt, z_cl, z_m1, z_sg, z_255, Int32.reduceToInt] <;> omega) | (simp only [Int32.le_iff_toInt_le, Int32.lt_iff_toInt_lt, z_eq, z_in, z_add, z_sub, z_mul, z_neg, z_nI, z_cl, z_sg, z_255, z_lit, Int32.reduceToInt] <;> omega))) (fin z _ (.ok (acc, q1)) z1 z71 ?_ (fun e he => absurd he (by simp)) (fun L q2 hL => by simp only [Except.ok.injEq, Prod.mk.injEq] at hL; rw [← hL.1, ← hL.2]; exact ⟨z3, z4, z5, z6⟩))
            rw [z7]
            simp only [bksF]
            rw [if_pos c1]
          · refine br_f (by (first | omega | (simp (disch := omega) only [Int32.le_iff_toInt_le, Int32.lt_iff_toInt_lt, z_eq, z_in, nI_toInt, z_cl, z_m1, z_sg, z_255, Int32.reduceToInt] <;> omega) | (simp only [Int32.le_iff_toInt_le, Int32.lt_iff_toInt_lt, z_eq, z_in, z_add, z_sub, z_mul, z_neg, z_nI, z_cl, z_sg, z_255, z_lit, Int32.reduceToInt] <;> omega))) ⟨fun w => absurd z3 w, fun _ => ?_⟩
            rw [show nI first + 64 = nI (first + 64) from by rw [show (64 : Int32) = nI 64 from rfl, nI_add]]
            have key : ∀ last, last = min (first + 64) (m - 1) → j_Mod_readLongs_119 post (wl_Mod_readLongs_70 post (d + 2)) (nI due) (nI st) (lN m) (nI first) (nI last) (nI first) z := fun last hlast => by
              unfold j_Mod_readLongs_119
              have eb : bksF T st m (d + 1) first acc q1 = (match blkR T st first last acc q1 with | .error e => .error e | .ok (acc', q) => bksF T st m d (first + 64) acc' q) := by
                simp only [bksF]
                rw [if_neg c1, ← hlast]
                cases blkR T st first last acc q1 <;> rfl
              rw [eb] at z7
              refine s_blk z2 z3 z4 z5 hst (by omega) (by omega) (by omega) (by omega) z6 (fun e u u1 u2 u3 => ?_) (fun L q2 u u1 u2 u3 u4 u5 => ?_)
              · rw [u1] at z7
                have fu : FrRg x u := Fg.trans z1 u2.g
                have u71 : fI u 0 71 = fI u 0 71 := rfl
                unfold wl_Mod_readLongs_70 j_Mod_readLongs_70
                have ends : j_Mod_readLongs_129 post (nI due) (nI st) (lN m) (nI first + 64) u := by
                  unfold j_Mod_readLongs_129 j_Mod_readLongs_150
                  exact ⟨fun _ => ⟨fun _ => pe e u z7 fu u3, fun w => absurd w u3.ne⟩, fun w => absurd w u3.ne⟩
                by_cases c : fI u 0 71 - 1 ≤ nI first + 64
                · exact br_t c ends
                · exact br_f c ⟨fun _ => ends, fun w => absurd w u3.ne⟩
              · rw [u1] at z7
                have fu : FrRg x u := Fg.trans z1 u2.g
                obtain ⟨b1, b2, b3⟩ := blkR_ok hT u1 (by omega) (by omega) (by omega) z5
                rw [show nI first + 64 = nI (first + 64) from by rw [show (64 : Int32) = nI 64 from rfl, nI_add]]
                have u71 : fI u 0 71 = nI m := (u2.1 0 71 (by decide)).trans z71
                exact ih (first + 64) L q2 u (by omega) fu (u2.fi z2) u71 u3 u4 b3 u5 hm (by omega) (by omega) z7
            by_cases c2 : m - 1 ≤ first + 64
            · exact br_t (by (first | omega | (simp (disch := omega) only [Int32.le_iff_toInt_le, Int32.lt_iff_toInt_lt, z_eq, z_in, nI_toInt, z_cl, z_m1, z_sg, z_255, Int32.reduceToInt] <;> omega) | (simp only [Int32.le_iff_toInt_le, Int32.lt_iff_toInt_lt, z_eq, z_in, z_add, z_sub, z_mul, z_neg, z_nI, z_cl, z_sg, z_255, z_lit, Int32.reduceToInt] <;> omega))) (key _ (by omega))
            · exact br_f (by (first | omega | (simp (disch := omega) only [Int32.le_iff_toInt_le, Int32.lt_iff_toInt_lt, z_eq, z_in, nI_toInt, z_cl, z_m1, z_sg, z_255, Int32.reduceToInt] <;> omega) | (simp only [Int32.le_iff_toInt_le, Int32.lt_iff_toInt_lt, z_eq, z_in, z_add, z_sub, z_mul, z_neg, z_nI, z_cl, z_sg, z_255, z_lit, Int32.reduceToInt] <;> omega))) (key _ (by omega))
      have fX : FrRg x (setI y 0 71 (nI m)) := Fg.trans y2.rl.g (Fg.i ⟨rfl, by decide⟩)
      have X69 : fI (setI y 0 71 (nI m)) 0 69 = 0 := (gI_ne (by decide)).trans y4
      have X67 : fI (setI y 0 71 (nI m)) 0 67 = nI q := (gI_ne (by decide)).trans y3
      have X71 : fI (setI y 0 71 (nI m)) 0 71 = nI m := gI_at
      have FX' := fX.fi hF
      unfold j_Mod_readLongs_32
      refine ⟨fun _ => ?_, fun z => absurd y4 z⟩
      rw [lN_i]
      refine nm_e ?_
      generalize setI y 0 71 (nI m) = X at *
      rw [X71]
      by_cases c0 : m = 0
      · rw [if_pos c0] at el
        refine br_t (by rw [c0]; decide) ?_
        unfold j_Mod_readLongs_67
        refine ⟨1, ?_⟩
        unfold wl_Mod_readLongs_70 j_Mod_readLongs_70
        refine br_t (by rw [X71, c0]; decide) (fin X _ (.ok ([], q)) fX X71 el (fun e he => absurd he (by simp)) (fun L q2 hL => ?_))
        simp only [Except.ok.injEq, Prod.mk.injEq] at hL
        rw [← hL.1, ← hL.2]
        exact ⟨X69, X67, v3, fun i hi => absurd hi (Nat.not_lt_zero _)⟩
      · rw [if_neg c0] at el
        refine br_f (by (first | omega | (simp (disch := omega) only [Int32.le_iff_toInt_le, Int32.lt_iff_toInt_lt, z_eq, z_in, nI_toInt, z_cl, z_m1, z_sg, z_255, Int32.reduceToInt] <;> omega) | (simp only [Int32.le_iff_toInt_le, Int32.lt_iff_toInt_lt, z_eq, z_in, z_add, z_sub, z_mul, z_neg, z_nI, z_cl, z_sg, z_255, z_lit, Int32.reduceToInt] <;> omega))) ?_
        have X43 : fN X 43 = 2000 := FX'.1 43
        refine s_vrd FX' X69 X67 v3 hst (fun e z z1 z2 z3 => ?_) (fun w q1 z z1 z2 z3 z4 => ?_)
        · rw [z1] at el
          rw [show (0 : Int64) = lN 0 from rfl]
          refine s_uz (by decide) ⟨?_, nm_e ?_⟩
          · have : fN z 43 = 2000 := (z2.fi FX').1 43
            rw [show (0 : Int32) = nI 0 from rfl]; exact vp_in_nI (by omega) (by omega)
          · have fl : Flt (setL z 43 0 (uz 0)) e := z3
            have fz : FrRg x (setL z 43 0 (uz 0)) := Fg.trans fX (Fg.trans z2.rl.g (Fg.l rfl))
            unfold j_Mod_readLongs_67
            refine ⟨1, ?_⟩
            unfold wl_Mod_readLongs_70 j_Mod_readLongs_70
            have ends : j_Mod_readLongs_129 post (nI due) (nI st) (lN m) 0 (setL z 43 0 (uz 0)) := by
              unfold j_Mod_readLongs_129 j_Mod_readLongs_150
              exact ⟨fun _ => ⟨fun _ => pe e _ el fz fl, fun w => absurd w fl.ne⟩, fun w => absurd w fl.ne⟩
            by_cases c : fI (setL z 43 0 (uz 0)) 0 71 - 1 ≤ 0
            · exact br_t c ends
            · exact br_f c ⟨fun _ => ends, fun w => absurd w fl.ne⟩
        · obtain ⟨w1, w2, w3⟩ := vrd_ok hT z1
          rw [z1] at el
          simp only at el
          have Fz := z2.fi FX'
          have z43 : fN z 43 = 2000 := Fz.1 43
          refine s_uz w1 ⟨by rw [show (0 : Int32) = nI 0 from rfl]; exact vp_in_nI (by omega) (by omega), nm_e ?_⟩
          have fz : FrRg x (setL z 43 0 (uz w)) := Fg.trans fX (Fg.trans z2.rl.g (Fg.l rfl))
          unfold j_Mod_readLongs_67
          refine ⟨m + 2, blocks m 0 [uz w] q1 _ (by omega) fz (fz.fi hF) ((z2.1 0 71 (by decide)).trans X71) z4 z3 w3 (fun i hi => ?_) (by omega) (by omega) (by show 1 = 1 + min 0 (m - 1); omega) el⟩
          have i0 : i = 0 := by simp only [List.length_singleton] at hi; omega
          rw [i0, gL_at, show (0 : Int32).toNatClampNeg = 0 from rfl, updL_at]
          rfl
    by_cases c : m ≤ 2000
    · refine br_f (fun z => ?_) (br_t ?_ (small c))
      · rw [lg_cmp_lt, lN_neg2 v1] at z; omega
      · rw [lg_cmp_le, show (2000 : Int64) = lN 2000 from rfl, lN_le2 (by omega) (by decide)]; exact c
    · by_cases cn : lN m < 0
      · exact br_t ((lg_cmp_lt _ _).mpr cn) (big (by omega))
      · refine br_f (fun z => cn ((lg_cmp_lt _ _).mp z)) (br_f (fun z => ?_) (big (by omega)))
        rw [lg_cmp_le] at z
        rw [lN_neg2 v1] at cn
        rw [show (2000 : Int64) = lN 2000 from rfl, lN_le2 (by omega) (by decide)] at z
        omega
theorem s_cde {post : St → Prop} {due : Nat} (hF : FiM x T n) (h0 : fI x 0 69 = 0) (hp : fI x 0 67 = nI p) (h68 : fI x 0 68 = nI st) (hps : p ≤ st) (hst : st ≤ n) (hd : due ≤ 2000)
    (pe : ∀ e y, cde T due st p = .error e → FrRg x y → Flt y e → post y)
    (pk : ∀ L q y, cde T due st p = .ok (L, q) → FrRg x y → fI y 0 69 = 0 → fI y 0 67 = nI q → q ≤ st → L.length = due → LgL y L → post y) : wp_Mod_readCode post (nI due) x := by
  have hn := hF.2.1
  have hT := hF.2.2.1
  unfold wp_Mod_readCode
  rw [h68]
  refine s_vrd hF h0 hp hps hst (fun e y y1 y2 y3 => ?_) (fun z q y y1 y2 y3 y4 => ?_)
  · refine ⟨fun _ => ?_, fun w => absurd w y3.ne⟩
    unfold j_Mod_readCode_42
    exact ⟨fun _ => pe e y (by unfold cde; rw [y1]) y2.rl.g y3, fun w => absurd w y3.ne⟩
  · obtain ⟨v1, v2, v3⟩ := vrd_ok hT y1
    have Fy := y2.fi hF
    have y68 : fI y 0 68 = nI st := (y2.1 0 68 (by decide)).trans h68
    have ec : cde T due st p = if st < q + z then .error 1 else lgs T due (q + z) q := by unfold cde; rw [y1]
    refine ⟨fun w => absurd y4 w, fun _ => ?_⟩
    have big : st < q + z → j_Mod_readCode_37 post (nI due) (lN z) y := fun c => by
      rw [if_pos c] at ec
      unfold j_Mod_readCode_37 j_Mod_readCode_42
      have fl : Flt (setI y 0 69 1) 1 := ⟨gI_at, by decide, by decide⟩
      exact nm_e ⟨fun _ => pe 1 _ ec (Fg.trans y2.rl.g (Fg.i ⟨rfl, by decide⟩)) fl, fun w => absurd w fl.ne⟩
    rw [y68, y3, nI_sub v3, show (nI (st - q)).toInt64 = lN (st - q) from nI_l (by omega)]
    by_cases c : q + z ≤ st
    · rw [if_neg (by omega)] at ec
      refine br_f (fun w => by rw [lg_cmp_lt, lN_neg2 v1] at w; omega) (br_t (by rw [lg_cmp_le, lN_le2 (by omega) (by omega)]; omega) ?_)
      unfold j_Mod_readCode_42
      refine ⟨fun w => absurd y4 w, fun _ => ?_⟩
      rw [y3, lN_i, nI_add]
      refine s_lgs Fy y4 y3 (by omega) (by omega) hd (fun e u u1 u2 u3 => pe e u (ec.trans u1) (Fg.trans y2.rl.g u2) u3) (fun L q2 u u1 u2 u3 u4 u5 => ?_)
      have lo := lgs_ok hT u1 (by omega)
      exact pk L q2 u (ec.trans u1) (Fg.trans y2.rl.g u2) u3 u4 (by omega) lo.1 u5
    · by_cases cn : lN z < 0
      · exact br_t ((lg_cmp_lt _ _).mpr cn) (big (by omega))
      · refine br_f (fun w => cn ((lg_cmp_lt _ _).mp w)) (br_f (fun w => ?_) (big (by omega)))
        rw [lg_cmp_le] at w
        rw [lN_neg2 v1] at cn
        rw [lN_le2 (by omega) (by omega)] at w
        omega
end
