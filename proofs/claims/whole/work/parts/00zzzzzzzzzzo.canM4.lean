/-! what can be of a test, model -/
section
variable {x : St} {Pl : List PV} {s : Nat} {Q : Qy} {F : List SFd}
theorem s_c373 {post : Int32 → St → Prop} {l1 l2 l3 l4 l5 l9 : Int32} {u y n : Bool} (p : post (nI (mkS n y u)) x) : j_Mod_canOf_373 post l1 l2 l3 l4 l5 (if u = true then 4 else 0) (if y = true then 1 else 0) (if n = true then 1 else 0) l9 x := by
  unfold j_Mod_canOf_373 j_Mod_canOf_385 j_Mod_canOf_396
  cases u <;> cases y <;> cases n
  · exact br_t rfl (br_t rfl p)
  · exact br_t rfl (br_f (by decide) p)
  · exact br_f (by decide) (br_t rfl p)
  · exact br_f (by decide) (br_f (by decide) p)
  · exact br_t rfl (br_t rfl p)
  · exact br_t rfl (br_f (by decide) p)
  · exact br_f (by decide) (br_t rfl p)
  · exact br_f (by decide) (br_f (by decide) p)
theorem lit_ty {ty : Nat} {l : QLt} {v : Int32} (h : litC v l) (hv : v = nI ty) (ht : ty < 4) : (l.1 = 3 ↔ ty = 3) ∧ okVv ty (lvl l) := by
  refine ⟨?_, fun _ => h.2⟩
  rcases h.1 with z | ⟨z1, z2⟩
  · rw [z, hv]
    exact nI_eq (b := 3) (by omega) (by decide)
  · rw [z1]
    rw [hv] at z2
    have z2 : ty = 1 := (nI_eq (b := 1) (by omega) (by decide)).mp z2
    rw [z2]
    decide
theorem s_canOf {post : Int32 → St → Prop} {i : Nat} {τ : Nat → Tl} (hL : LM x) (h : PoM x Pl) (hw : WfS F) (hR : RepM x 1 F) (hs : s < 3) (hQ : KqM x s Q) (hi : i < Q.2.2.1.length) (hst : stW F Q.2.2.2 (Q.2.2.1.getD i (0, 0, 0, 0, 0))) (n5 : ¬ (Q.2.2.1.getD i (0, 0, 0, 0, 0)).1 = 5) (n6 : ¬ (Q.2.2.1.getD i (0, 0, 0, 0, 0)).1 = 6) (n7 : ¬ (Q.2.2.1.getD i (0, 0, 0, 0, 0)).1 = 7)
    (hT : ∀ f, colF F f → ((Q.2.2.1.getD i (0, 0, 0, 0, 0)).2.1 = nI f ∨ (Q.2.2.1.getD i (0, 0, 0, 0, 0)).1 = 4 ∧ (Q.2.2.1.getD i (0, 0, 0, 0, 0)).2.2.2.1 = nI f) → TdM x (tOf F (nI f)) Pl (ncol (F.take f)) (τ (ncol (F.take f))) ∧ 0 < (τ (ncol (F.take f))).1)
    (p : post (nI (canS F Q.2.2.2 τ (Q.2.2.1.getD i (0, 0, 0, 0, 0)))) x) : wp_Mod_canOf post (nI (64 * s + i)) x := by
  have hF := hw.1
  have hC := hw.2.1
  have hQ' := hQ
  obtain ⟨⟨-, -, ⟨-, q64l, q3⟩, ⟨-, l64, -⟩⟩, -, -⟩ := hQ
  obtain ⟨r0, r1, r2, r3, r4⟩ := q3 i hi
  have ii : vp_in (nI (64 * s + i)) 192 := vp_in_nI (by omega) (by decide)
  have rd : ∀ a, rA x a (nI (64 * s + i)) = fA x a (64 * s + i) := fun a => rA_nI (by omega)
  generalize Q.2.2.1.getD i (0, 0, 0, 0, 0) = st at *
  -- the field of the first column
  have hf : ∃ f, colF F f ∧ st.2.1 = nI f := by
    rcases hst with ⟨f, hf, e⟩ | ⟨f, a, m, hf, hm, ham, hlit, e⟩ | ⟨f, op, a, hf, ho, ha, hlit, e⟩ | ⟨f, op, g, hf, ho, hg, hty, e⟩ | e | e | e
    · exact ⟨f, hf, by rcases e with e | e <;> rw [e]⟩
    · exact ⟨f, hf, by rw [e]⟩
    · exact ⟨f, hf, by rw [e]⟩
    · exact ⟨f, hf, by rw [e]⟩
    · rw [e] at n5; exact absurd rfl n5
    · rw [e] at n6; exact absurd rfl n6
    · rw [e] at n7; exact absurd rfl n7
  obtain ⟨f, hf, ef⟩ := hf
  have hf1 := hf.1
  obtain ⟨hTd, hpos⟩ := hT f hf (Or.inl ef)
  obtain ⟨tt1, tt4, tE⟩ := tOf_n hw hf
  have hc64 : ncol (F.take f) < 64 := by have := (col_ok hw hf).1; omega
  have eT : τ (cOf F st.2.1) = τ (ncol (F.take f)) := by rw [ef, cOf_n (by omega)]
  have e6 : rA x 6 (nI (128 + f)) = nI (ncol (F.take f)) := by
    rw [rA_nI (by omega)]
    have := (hR.2.2.1 f hf1).2.2.2.2.2
    rw [if_neg hf.2.1] at this
    exact this
  have cc : vp_in (nI (ncol (F.take f))) 64 := vp_in_nI hc64 (by decide)
  have t97 := hTd.1
  have t98 := hTd.2.1
  have tle := hTd.2.2.1
  have tml := hTd.2.2.2.1
  unfold canS at p
  simp only at p
  rw [eT] at p
  unfold wp_Mod_canOf
  rw [show fN x 85 = 192 from hL 85, rd, r1, ef, k_plM, pl1, e6, show fN x 6 = 384 from hL 6, show fN x 84 = 192 from hL 84, show fN x 97 = 64 from hL 97, show fN x 98 = 64 from hL 98]
  refine ⟨ii, vp_in_nI (by omega) (by decide), nm_e ⟨ii, nm_r (show _ = st.1 from by rw [rd]; exact r0) ⟨cc, cc, ?_⟩⟩⟩
  rw [rA_nI (o := 97) (by omega), rA_nI (o := 98) (by omega), t97, t98]
  generalize hτ : τ (ncol (F.take f)) = t at *
  -- some and none
  have m59 : ∀ so no : Bool, so = decide (t.2.1 < t.1) → no = decide (0 < t.2.1) → j_Mod_canOf_59 post (nI (64 * s + i)) (nI (ncol (F.take f))) st.1 (if so = true then 1 else 0) (if no = true then 1 else 0) x := by
    intro so no eso eno
    rw [← eso, ← eno] at p
    have sn : so = false → no = true := fun z => by
      rw [eno]
      rw [z] at eso
      have := of_decide_eq_false eso.symm
      exact decide_eq_true (by omega)
    unfold j_Mod_canOf_59 j_Mod_canOf_108 j_Mod_canOf_83 j_Mod_canOf_104 j_Mod_canOf_100
    rcases hst with ⟨f', hf', e⟩ | ⟨f', a, m, hf', hm, ham, hlit, e⟩ | ⟨f', op, a, hf', ho, ha, hlit, e⟩ | ⟨f', op, g, hf', ho, hg, hty, e⟩ | e | e | e
    · rcases e with e | e
      · have k0 : st.1 = 0 := by rw [e]
        rw [if_pos k0] at p
        rw [k0]
        refine br_f (by decide) (bn_t rfl ?_)
        cases no with
        | false =>
          cases so with
          | false => exact absurd (sn rfl) (by decide)
          | true => exact br_t rfl p
        | true =>
          cases so with
          | false => exact br_f (by decide) (bn_t rfl (br_t rfl p))
          | true => exact br_f (by decide) (bn_t rfl (br_f (by decide) p))
      · have k0 : st.1 = 1 := by rw [e]
        rw [if_neg (by rw [k0]; decide), if_pos k0] at p
        rw [k0]
        refine br_f (by decide) (bn_f (by decide) ?_)
        cases so with
        | false =>
          cases no with
          | false => exact absurd (sn rfl) (by decide)
          | true => exact br_t rfl p
        | true =>
          cases no with
          | false => exact br_f (by decide) (bn_f (by decide) (br_t rfl p))
          | true => exact br_f (by decide) (bn_f (by decide) (br_f (by decide) p))
    · -- a list
      have k0 : st.1 = 2 := by rw [e]
      have eff : f' = f := by
        have : nI f' = nI f := by rw [← ef, e]
        exact (nI_eq (by have := hf'.1; omega) (by omega)).mp this
      subst eff
      have r3 : fA x 87 (64 * s + i) = nI a := by rw [r3, e]
      have r4 : fA x 88 (64 * s + i) = nI m := by rw [r4, e]
      rw [if_neg (by rw [k0]; decide), if_neg (by rw [k0]; decide), if_neg (by rw [k0]; decide), if_neg (show ¬ st.1 = 3 by rw [k0]; decide), ef] at p
      have e1 : fOf st.2.2.2.2 = m := by rw [e]; exact fOf_n (by omega)
      have e2 : fOf st.2.2.2.1 = a := by rw [e]; exact fOf_n (by omega)
      rw [e1, e2] at p
      have lits : ∀ j, a ≤ j → j < a + m → ((Q.2.2.2.getD j lt0).1 = 3 ↔ tOf F (nI f') = 3) ∧ okVv (tOf F (nI f')) (lvl (Q.2.2.2.getD j lt0)) := fun j h1 h2 => lit_ty (hlit j h1 h2) tE tt4
      rw [k0]
      have m120 : j_Mod_canOf_120 post (nI (64 * s + i)) (nI (ncol (F.take f'))) 2 (if so = true then 1 else 0) (if no = true then 1 else 0) (if no = true then 4 else 0) x := by
        unfold j_Mod_canOf_120
        refine bn_f (by decide) ?_
        cases so with
        | false =>
          have := of_decide_eq_false eso.symm
          rw [if_neg this] at p
          refine bn_t rfl ?_
          cases no <;> exact p
        | true =>
          have hso := of_decide_eq_true eso.symm
          rw [if_pos hso] at p
          have p : post (nI (mkS (canO Q.2.2.2 (tOf F (nI f')) a m t) ((List.range m).any (fun i => canC (tOf F (nI f')) 0 t (lvl (Q.2.2.2.getD (a + i) lt0)))) no)) x := p
          refine bn_f (by decide) (bn_f (by decide) ?_)
          refine lp_Mod_canOf_311 (fun b1 b2 b3 b4 b5 b6 b7 b8 b9 y => nI (64 * s + i) = b1 ∧ nI (ncol (F.take f')) = b2 ∧ (2 : Int32) = b3 ∧ (if true = true then 1 else 0) = b4 ∧ (if no = true then 1 else 0) = b5 ∧ (if no = true then 4 else 0) = b6 ∧ (0 : Int32) = b8 ∧ x = y ∧ ∃ j, j ≤ m ∧ nI j = b9 ∧ b7 = (if (List.range j).any (fun i => canC (tOf F (nI f')) 0 t (lvl (Q.2.2.2.getD (a + i) lt0))) = true then 1 else 0)) (fun _ _ _ _ _ _ _ _ b9 _ => m - b9.toNatClampNeg) ?_ _ _ _ _ _ _ _ _ _ _ ⟨rfl, rfl, rfl, rfl, rfl, rfl, rfl, rfl, 0, Nat.zero_le _, rfl, rfl⟩
          rintro R b1 b2 b3 b4 b5 b6 b7 b8 b9 y ⟨rfl, rfl, rfl, rfl, rfl, rfl, rfl, rfl, j, hj, rfl, rfl⟩ ih
          unfold j_Mod_canOf_311 j_Mod_canOf_352
          rw [show fN x 88 = 192 from hL 88, rd, r4]
          refine ⟨ii, ?_⟩
          by_cases cj : j < m
          · refine br_f (by (first | omega | (simp (disch := omega) only [Int32.le_iff_toInt_le, Int32.lt_iff_toInt_lt, z_eq, z_in, nI_toInt, z_cl, z_m1, z_sg, z_255, Int32.reduceToInt] <;> omega) | (simp only [Int32.le_iff_toInt_le, Int32.lt_iff_toInt_lt, z_eq, z_in, z_add, z_sub, z_mul, z_neg, z_nI, z_cl, z_sg, z_255, z_lit, Int32.reduceToInt] <;> omega))) ?_
            have es : (List.range (j + 1)).any (fun i => canC (tOf F (nI f')) 0 t (lvl (Q.2.2.2.getD (a + i) lt0))) = ((List.range j).any (fun i => canC (tOf F (nI f')) 0 t (lvl (Q.2.2.2.getD (a + i) lt0))) || canC (tOf F (nI f')) 0 t (lvl (Q.2.2.2.getD (a + j) lt0))) := by
              rw [List.range_succ, List.any_append]
              show (_ || (_ || false)) = _
              rw [Bool.or_false]
            have nx : ∀ (v l7 : Int32), v = (if ((List.range j).any (fun i => canC (tOf F (nI f')) 0 t (lvl (Q.2.2.2.getD (a + i) lt0))) || canC (tOf F (nI f')) 0 t (lvl (Q.2.2.2.getD (a + j) lt0))) = true then 1 else 0) → j_Mod_canOf_357 post R (nI (64 * s + i)) (nI (ncol (F.take f'))) 2 (if true = true then 1 else 0) (if no = true then 1 else 0) (if no = true then 4 else 0) l7 0 (nI j) v x := by
              intro v l7 ev
              unfold j_Mod_canOf_357
              rw [nI_1]
              refine ih _ _ _ _ _ _ _ _ _ _ ⟨rfl, rfl, rfl, rfl, rfl, rfl, rfl, rfl, j + 1, cj, rfl, by rw [es]; exact ev⟩ ?_
              rw [nI_clamp (by omega), nI_clamp (by omega)]
              omega
            generalize (List.range j).any (fun i => canC (tOf F (nI f')) 0 t (lvl (Q.2.2.2.getD (a + i) lt0))) = B at *
            cases B with
            | true => exact bn_f (by decide) (nx 1 _ (by rw [Bool.true_or, if_pos rfl]))
            | false =>
              refine bn_t rfl ?_
              obtain ⟨g1, g2⟩ := lits (a + j) (by omega) (by omega)
              rw [show fN x 87 = 192 from hL 87, d64 ⟨s, hs⟩ ⟨i, by omega⟩, rd, r3, show 64 * nI s + nI a + nI j = nI (64 * s + (a + j)) from by rw [q64, nI_add, Nat.add_assoc]]
              refine ⟨ii, s_mayBe hL h hs hQ' (by omega) g1 g2 hc64 hTd hso ?_⟩
              by_cases d : canC (tOf F (nI f')) 0 t (lvl (Q.2.2.2.getD (a + j) lt0)) = true
              · rw [if_pos d]
                exact br_f (by decide) (nx 1 _ (by rw [d]; rfl))
              · have df : canC (tOf F (nI f')) 0 t (lvl (Q.2.2.2.getD (a + j) lt0)) = false := by cases q : canC (tOf F (nI f')) 0 t (lvl (Q.2.2.2.getD (a + j) lt0)); rfl; exact absurd q d
                rw [if_neg d]
                exact br_t rfl (nx 0 _ (by rw [df]; rfl))
          · have ej : j = m := by omega
            subst ej
            exact br_t (by (first | omega | (simp (disch := omega) only [Int32.le_iff_toInt_le, Int32.lt_iff_toInt_lt, z_eq, z_in, nI_toInt, z_cl, z_m1, z_sg, z_255, Int32.reduceToInt] <;> omega) | (simp only [Int32.le_iff_toInt_le, Int32.lt_iff_toInt_lt, z_eq, z_in, z_add, z_sub, z_mul, z_neg, z_nI, z_cl, z_sg, z_255, z_lit, Int32.reduceToInt] <;> omega))) (s_canBO hL h hw hR hf hs hQ' (by omega) r3 r4 ham lits tt4 tE hTd hso (s_c373 p))
      refine br_t (by decide) ?_
      cases no with
      | false => exact br_t rfl m120
      | true => exact br_f (by decide) m120
    · have k0 : st.1 = 3 := by rw [e]
      have eff : f' = f := by
        have : nI f' = nI f := by rw [← ef, e]
        exact (nI_eq (by have := hf'.1; omega) (by omega)).mp this
      subst eff
      have r2 : fA x 86 (64 * s + i) = nI op := by rw [r2, e]
      have r3 : fA x 87 (64 * s + i) = nI a := by rw [r3, e]
      rw [if_neg (by rw [k0]; decide), if_neg (by rw [k0]; decide), if_neg (by rw [k0]; decide), if_pos k0, ef] at p
      have e1 : fOf st.2.2.1 = op := by rw [e]; exact fOf_n (by omega)
      have e2 : fOf st.2.2.2.1 = a := by rw [e]; exact fOf_n (by omega)
      rw [e1, e2] at p
      obtain ⟨g1, g2⟩ := lit_ty hlit tE tt4
      rw [k0]
      have m120 : j_Mod_canOf_120 post (nI (64 * s + i)) (nI (ncol (F.take f'))) 3 (if so = true then 1 else 0) (if no = true then 1 else 0) (if no = true then 4 else 0) x := by
        unfold j_Mod_canOf_120
        refine bn_f (by decide) ?_
        cases so with
        | false =>
          have := of_decide_eq_false eso.symm
          rw [if_neg this] at p
          refine bn_t rfl ?_
          cases no <;> exact p
        | true =>
          have hso := of_decide_eq_true eso.symm
          rw [if_pos hso] at p
          refine bn_f (by decide) (bn_t rfl ?_)
          rw [show fN x 87 = 192 from hL 87, show fN x 86 = 192 from hL 86, d64 ⟨s, hs⟩ ⟨i, by omega⟩, rd, rd, r2, r3]
          refine ⟨ii, nm_r (e' := nI (64 * s + a)) (by show 64 * nI s + nI a = _; rw [q64]) ⟨ii, s_canC hL h hs hQ' ha g1 g2 ho hc64 hTd hso ?_⟩⟩
          rw [show fN x 86 = 192 from hL 86, rd, r2]
          exact ⟨ii, s_contrary ho (s_canC hL h hs hQ' ha g1 g2 (ctr_le ho) hc64 hTd hso (s_c373 p))⟩
      refine br_t (by decide) ?_
      cases no with
      | false => exact br_t rfl m120
      | true => exact br_f (by decide) m120
    · -- two columns
      have k0 : st.1 = 4 := by rw [e]
      have eff : f' = f := by
        have : nI f' = nI f := by rw [← ef, e]
        exact (nI_eq (by have := hf'.1; omega) (by omega)).mp this
      subst eff
      have hg1 := hg.1
      have r2 : fA x 86 (64 * s + i) = nI op := by rw [r2, e]
      have r3 : fA x 87 (64 * s + i) = nI g := by rw [r3, e]
      have eg : st.2.2.2.1 = nI g := by rw [e]
      obtain ⟨hUd, hupos⟩ := hT g hg (Or.inr ⟨k0, eg⟩)
      obtain ⟨uu1, uu4, uE⟩ := tOf_n hw hg
      have hd64 : ncol (F.take g) < 64 := by have := (col_ok hw hg).1; omega
      have e1 : fOf st.2.2.1 = op := by rw [e]; exact fOf_n (by omega)
      have eU : τ (cOf F st.2.2.2.1) = τ (ncol (F.take g)) := by rw [eg, cOf_n (by omega)]
      rw [if_neg (by rw [k0]; decide), if_neg (by rw [k0]; decide), if_pos k0, eU, e1, ef] at p
      have u97 := hUd.1
      have u98 := hUd.2.1
      have ule := hUd.2.2.1
      have uml := hUd.2.2.2.1
      have uok : (τ (ncol (F.take g))).2.1 < (τ (ncol (F.take g))).1 → okVv (tOf F (nI f')) (τ (ncol (F.take g))).2.2.1 ∧ okVv (tOf F (nI f')) (τ (ncol (F.take g))).2.2.2.1 := by
        intro hlt
        obtain ⟨-, -, -, -, -, -, -, -, o1, o2⟩ := hUd.2.2.2.2.2.2.1 hlt
        have conv : ∀ q : PV, okVv (tOf F (nI g)) q → okVv (tOf F (nI f')) q := by
          intro q hq z
          rcases hty with d | d
          · rw [tE, uE] at d
            have d : tOf F (nI f') = tOf F (nI g) := (nI_eq (by omega) (by omega)).mp d
            exact hq (d.symm.trans z)
          · rw [tE, z] at d
            exact absurd d.1 (by decide)
        exact ⟨conv _ o1, conv _ o2⟩
      generalize hυ : τ (ncol (F.take g)) = u at *
      have dd : vp_in (nI (ncol (F.take g))) 64 := vp_in_nI hd64 (by decide)
      have e6g : rA x 6 (nI (128 + g)) = nI (ncol (F.take g)) := by
        rw [rA_nI (by omega)]
        have := (hR.2.2.1 g hg1).2.2.2.2.2
        rw [if_neg hg.2.1] at this
        exact this
      rw [k0]
      have m167 : ∀ nu : Bool, nu = decide (0 < u.2.1) → ∀ l6 l7 l8, j_Mod_canOf_167 post (nI (64 * s + i)) (nI (ncol (F.take f'))) 4 (if so = true then 1 else 0) (if no = true then 1 else 0) l6 l7 l8 (nI (ncol (F.take g))) (if nu = true then 4 else 0) (if no = true then 4 else 0) x := by
        intro nu enu l6 l7 l8
        rw [← enu] at p
        unfold j_Mod_canOf_167 j_Mod_canOf_192
        refine nm_r (e' := if (no || nu) = true then 4 else 0) (by cases no <;> cases nu <;> rfl) ?_
        have pf : ¬ (t.2.1 < t.1 ∧ u.2.1 < u.1) → post (if (no || nu) = true then 4 else 0) x := by
          intro z
          rw [if_neg z] at p
          generalize (no || nu) = w at *
          cases w <;> exact p
        cases so with
        | false => exact br_t rfl (pf (fun z => (of_decide_eq_false eso.symm) z.1))
        | true =>
          have hso := of_decide_eq_true eso.symm
          refine br_f (by decide) ?_
          rw [show fN x 97 = 64 from hL 97, show fN x 98 = 64 from hL 98, rA_nI (o := 97) (by omega), rA_nI (o := 98) (by omega), u97, u98]
          refine ⟨dd, dd, ?_⟩
          by_cases cu : u.2.1 < u.1
          · rw [if_pos ⟨hso, cu⟩] at p
            refine bn_f (fun z => by have := (nI_eq (by omega) (by omega)).mp z; omega) (s_typeOfQ hL hw hR hf ?_)
            rw [show fN x 86 = 192 from hL 86, rd, r2, tE]
            refine ⟨ii, s_canMt hL h ho tt4 hc64 hd64 hTd hUd (uok cu) hso cu (s_typeOfQ hL hw hR hf ?_)⟩
            rw [show fN x 86 = 192 from hL 86, rd, r2, tE]
            exact ⟨ii, s_contrary ho (s_canMt hL h (ctr_le ho) tt4 hc64 hd64 hTd hUd (uok cu) hso cu (s_c373 p))⟩
          · exact bn_t (by rw [show u.1 = u.2.1 by omega]) (pf (fun z => cu z.2))
      have m120 : j_Mod_canOf_120 post (nI (64 * s + i)) (nI (ncol (F.take f'))) 4 (if so = true then 1 else 0) (if no = true then 1 else 0) (if no = true then 4 else 0) x := by
        unfold j_Mod_canOf_120
        refine bn_t rfl ?_
        rw [show fN x 87 = 192 from hL 87, rd, r3, k_plM, pl1, e6g, show fN x 6 = 384 from hL 6]
        refine ⟨ii, vp_in_nI (by omega) (by decide), nm_e ?_⟩
        rw [show fN x 98 = 64 from hL 98, rA_nI (o := 98) (by omega), u98]
        refine ⟨dd, ?_⟩
        by_cases c : 0 < u.2.1
        · exact br_f (by (first | omega | (simp (disch := omega) only [Int32.le_iff_toInt_le, Int32.lt_iff_toInt_lt, z_eq, z_in, nI_toInt, z_cl, z_m1, z_sg, z_255, Int32.reduceToInt] <;> omega) | (simp only [Int32.le_iff_toInt_le, Int32.lt_iff_toInt_lt, z_eq, z_in, z_add, z_sub, z_mul, z_neg, z_nI, z_cl, z_sg, z_255, z_lit, Int32.reduceToInt] <;> omega))) (m167 true (decide_eq_true c).symm _ _ _)
        · exact br_t (by (first | omega | (simp (disch := omega) only [Int32.le_iff_toInt_le, Int32.lt_iff_toInt_lt, z_eq, z_in, nI_toInt, z_cl, z_m1, z_sg, z_255, Int32.reduceToInt] <;> omega) | (simp only [Int32.le_iff_toInt_le, Int32.lt_iff_toInt_lt, z_eq, z_in, z_add, z_sub, z_mul, z_neg, z_nI, z_cl, z_sg, z_255, z_lit, Int32.reduceToInt] <;> omega))) (m167 false (decide_eq_false c).symm _ _ _)
      refine br_t (by decide) ?_
      cases no with
      | false => exact br_t rfl m120
      | true => exact br_f (by decide) m120
    · rw [e] at n5; exact absurd rfl n5
    · rw [e] at n6; exact absurd rfl n6
    · rw [e] at n7; exact absurd rfl n7
  have m43 : ∀ so : Bool, so = decide (t.2.1 < t.1) → j_Mod_canOf_43 post (nI (64 * s + i)) (nI (ncol (F.take f))) st.1 (if so = true then 1 else 0) x := by
    intro so eso
    unfold j_Mod_canOf_43
    rw [show fN x 98 = 64 from hL 98, rA_nI (o := 98) (by omega), t98]
    refine ⟨cc, ?_⟩
    by_cases c : 0 < t.2.1
    · exact br_f (by (first | omega | (simp (disch := omega) only [Int32.le_iff_toInt_le, Int32.lt_iff_toInt_lt, z_eq, z_in, nI_toInt, z_cl, z_m1, z_sg, z_255, Int32.reduceToInt] <;> omega) | (simp only [Int32.le_iff_toInt_le, Int32.lt_iff_toInt_lt, z_eq, z_in, z_add, z_sub, z_mul, z_neg, z_nI, z_cl, z_sg, z_255, z_lit, Int32.reduceToInt] <;> omega))) (m59 so true eso (decide_eq_true c).symm)
    · exact br_t (by (first | omega | (simp (disch := omega) only [Int32.le_iff_toInt_le, Int32.lt_iff_toInt_lt, z_eq, z_in, nI_toInt, z_cl, z_m1, z_sg, z_255, Int32.reduceToInt] <;> omega) | (simp only [Int32.le_iff_toInt_le, Int32.lt_iff_toInt_lt, z_eq, z_in, z_add, z_sub, z_mul, z_neg, z_nI, z_cl, z_sg, z_255, z_lit, Int32.reduceToInt] <;> omega))) (m59 so false eso (decide_eq_false c).symm)
  by_cases c : t.2.1 < t.1
  · exact br_f (by (first | omega | (simp (disch := omega) only [Int32.le_iff_toInt_le, Int32.lt_iff_toInt_lt, z_eq, z_in, nI_toInt, z_cl, z_m1, z_sg, z_255, Int32.reduceToInt] <;> omega) | (simp only [Int32.le_iff_toInt_le, Int32.lt_iff_toInt_lt, z_eq, z_in, z_add, z_sub, z_mul, z_neg, z_nI, z_cl, z_sg, z_255, z_lit, Int32.reduceToInt] <;> omega))) (m43 true (decide_eq_true c).symm)
  · exact br_t (by (first | omega | (simp (disch := omega) only [Int32.le_iff_toInt_le, Int32.lt_iff_toInt_lt, z_eq, z_in, nI_toInt, z_cl, z_m1, z_sg, z_255, Int32.reduceToInt] <;> omega) | (simp only [Int32.le_iff_toInt_le, Int32.lt_iff_toInt_lt, z_eq, z_in, z_add, z_sub, z_mul, z_neg, z_nI, z_cl, z_sg, z_255, z_lit, Int32.reduceToInt] <;> omega))) (m43 false (decide_eq_false c).symm)
end
