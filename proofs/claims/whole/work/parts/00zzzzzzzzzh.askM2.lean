/-! tests of a query, model: lists, all tests -/
section
variable {b : Prop} {T : Nat → Int32} {n s : Nat} {F : List SFd} {x y : St} {Q : Qy} {r : QR}
/-- behind a literal of a list: the loop -/
theorem s_qLstL (hB : BsM x T n F s) {post : St → Prop} {f : Nat} {l1 l3 : Int32} (hf : f < F.length)
    (K : ∀ z, RqM b n s x r z → vp_in ((4 * fI z 0 118) + 3) (fN z 79) ∧ wp_Mod_addStep (fun (w : St) => post w) l1 2 (nI f) (-1) l3 ((rA z 79 ((4 * fI z 0 118) + 3)) - l3) z) :
    ∀ d r0 y, (r0.1 = -1 → 65 ≤ r0.2.2.2.2.2.length + d) → RqM b n s x r0 y → r = qBd r0 (qLst T n (fTy F f) d) → wl_Mod_readAsked_121 post (d + 1) l1 (nI f) l3 y := by
  have hF := hB.2.2.2.1.1
  have t2 := hB.2.1
  intro d
  induction d with
  | zero =>
    intro r0 y hd h er
    show j_Mod_readAsked_121 post _ _ _ _ y
    unfold j_Mod_readAsked_121
    by_cases c : r0.1 = -1
    · have := (h.gd c).2.2.2.2.1.2.2.2.2.1
      have := hd c
      omega
    · rw [qBd_b c] at er
      refine s_qSign hB (by decide) h (fun a => absurd a c) (fun _ z hz => br_t rfl (s_qWant hB (by decide) hz (fun w hw => ?_)))
      rw [qSgn_b (show ¬ (r0.1, skip T n r0.2.1, r0.2.2).1 = -1 from c)] at hw
      exact K w (er ▸ (hw.ft c).rs c)
  | succ d ih =>
    intro r0 y hd h er
    show j_Mod_readAsked_121 post (wl_Mod_readAsked_121 post (d + 1)) _ _ _ y
    unfold j_Mod_readAsked_121
    refine s_qSign hB (by decide) h (fun a1 a2 a3 z hz => br_f (by decide) ?_) (fun a z hz => br_t rfl (s_qWant hB (by decide) hz (fun w hw => K w ?_)))
    · have gz := hz.gd rfl
      obtain ⟨u1, -, u3, -, u5, -⟩ := hB.fq gz.1
      rw [k_plM, pl1]
      refine ⟨by rw [show fN z 4 = 384 from u3 4]; exact vp_in_nI (by omega) (by decide), ?_⟩
      rw [rA_nI (by omega), (u5.2.2.1 f hf).2.1]
      refine s_qLit hB gz (fun w hw => ih _ w (fun e => ?_) hw ?_)
      · have := hd a1
        obtain ⟨k', l, e2, -⟩ := qLit_w (show n < 2 ^ 31 by omega) gz.2.2.2.1 e
        have e2 : qLit T n (fTy F f) (skip T n r0.2.1 + 1) r0.2.2 = _ := e2
        show 65 ≤ (qLit T n (fTy F f) (skip T n r0.2.1 + 1) r0.2.2).2.2.2.2.2.length + d
        rw [e2]
        show 65 ≤ (r0.2.2.2.2.2 ++ [l]).length + d
        rw [List.length_append]
        show 65 ≤ r0.2.2.2.2.2.length + 1 + d
        omega
      · rw [er, qBd_g a1]
        show qLst T n (fTy F f) (d + 1) r0.2.1 r0.2.2 = _
        unfold qLst
        rw [if_pos ⟨a2, a3⟩]
    · by_cases c : r0.1 = -1
      · rw [er, qBd_g c]
        unfold qLst
        rw [if_neg (fun q => a ⟨c, q⟩)]
        rw [c] at hw
        exact hw
      · rw [er, qBd_b c]
        rw [qSgn_b (show ¬ (r0.1, skip T n r0.2.1, r0.2.2).1 = -1 from c)] at hw
        exact (hw.ft c).rs c
theorem s_qNeed (hB : BsM x T n F s) {post : St → Prop} {W : Int64} {w : List Nat} (hg : goodW w ∧ W = lN (bW w)) (h : RqM b n s x r y) (p : ∀ z, RqM b n s x (qWrd T n w r) z → post z) :
    wp_Mod_takesWord (fun (v : Int32) (z : St) => ((¬ v = 0 → post z) ∧ (v = 0 → wp_Mod_fail (fun (u : St) => post u) (fI z 0 16) z))) W y := by
  have t2 := hB.2.1
  refine s_qWord hB hg.1 hg.2 h (fun a1 a2 z hz => bn_f (by decide) (p z ?_)) (fun a z hz => bn_t rfl ?_)
  · unfold qWrd
    rw [if_neg (fun q => q a1), if_pos a2]
    exact hz
  · by_cases d : r.1 = -1
    · have g := hz.gd d
      have g3 : fI z 0 16 = nI (skip T n r.2.1) := g.2.2.1
      have g4 : skip T n r.2.1 ≤ n := g.2.2.2.1
      rw [g3]
      refine s_qFail hB (by omega) hz (fun u hu => p u ?_)
      unfold qWrd
      rw [if_neg (fun q => q d), if_neg (fun q => a ⟨d, q⟩)]
      unfold qEr at hu
      rw [if_pos d] at hu
      exact hu
    · refine s_fail ?_
      rw [if_neg (by rw [hz.e]; exact d)]
      refine p z ?_
      unfold qWrd
      rw [if_pos d]
      exact (hz.ft d).rs d
theorem s_qIn (hB : BsM x T n F s) {post : St → Prop} {f k q : Nat} (hq : q ≤ n) (hf : f < F.length) (h : GdM b n s x y k Q) (p : ∀ z, RqM b n s x (qIn T n F q f k Q) z → post z) :
    wp_Mod_wantSign (fun (z : St) => ((¬ (fI z 0 17) = (-1) → ∃ m : Nat, wl_Mod_readAsked_121 post m (nI q) (nI f) (nI Q.2.2.2.length) z) ∧ ((fI z 0 17) = (-1) → wp_Mod_place (fun (v : Int32) (w : St) => (vp_in v (fN w 4) ∧ wp_Mod_readLiteral (fun (u : St) => ∃ m : Nat, wl_Mod_readAsked_121 post m (nI q) (nI f) (nI Q.2.2.2.length) u) (rA w 4 v) w)) 1 (nI f) z))) 40 y := by
  have hF := hB.2.2.2.1.1
  have t2 := hB.2.1
  unfold qIn at p
  have hl := h.2.2.2.2.1.2.2.2.2.1
  have hk := h.2.2.2.1
  have K : ∀ z, RqM b n s x (qBd (qBd (qSgn T n 40 (-1, k, Q)) (qLit T n (fTy F f))) (qLst T n (fTy F f) 65)) z → vp_in ((4 * fI z 0 118) + 3) (fN z 79) ∧ wp_Mod_addStep (fun (w : St) => post w) (nI q) 2 (nI f) (-1) (nI Q.2.2.2.length) ((rA z 79 ((4 * fI z 0 118) + 3)) - nI Q.2.2.2.length) z := by
    intro z hz
    obtain ⟨u1, -, u3, -, u5, u6, u7⟩ := hB.fq hz.fq
    rw [u6, q43, show fN z 79 = 12 from u3 79]
    refine ⟨vp_in_nI (by omega) (by decide), ?_⟩
    rw [rA_nI (by omega)]
    by_cases c : (qBd (qBd (qSgn T n 40 (-1, k, Q)) (qLit T n (fTy F f))) (qLst T n (fTy F f) 65)).1 = -1
    · obtain ⟨c1, e1⟩ := qBd_q c
      obtain ⟨c2, e2⟩ := qBd_q c1
      obtain ⟨-, e3, k3⟩ := qSgn_q c2 (by omega) (show k ≤ n from hk)
      rw [e2] at c1
      obtain ⟨k4, l, e4, -, -, k5⟩ := qLit_w (by omega) (by rw [e3]; exact k3) c1
      rw [e1] at c
      obtain ⟨k6, L, e6, -⟩ := qLst_w (by omega) _ _ _ (by rw [e2, e4]; exact k5) c
      have ln : Q.2.2.2.length ≤ (qBd (qBd (qSgn T n 40 (-1, k, Q)) (qLit T n (fTy F f))) (qLst T n (fTy F f) 65)).2.2.2.2.2.length := by
        rw [e1, e6]
        show _ ≤ ((qBd (qSgn T n 40 (-1, k, Q)) (qLit T n (fTy F f))).2.2.2.2.2 ++ L).length
        rw [e2, e4, e3]
        show _ ≤ ((Q.2.2.2 ++ [l]) ++ L).length
        rw [List.length_append, List.length_append]
        omega
      rw [← e1] at c
      rw [(hz.gd c).2.2.2.2.1.2.2.2.1, nI_sub ln]
      exact s_qAdd hB (l := (2, nI f, -1, nI Q.2.2.2.length, nI ((qBd (qBd (qSgn T n 40 (-1, k, Q)) (qLit T n (fTy F f))) (qLst T n (fTy F f) 65)).2.2.2.2.2.length - Q.2.2.2.length))) (by omega) hz p
    · refine s_qAdd hB (l := (2, nI f, -1, nI Q.2.2.2.length, _)) (by omega) hz (fun w hw => p w ?_)
      rw [qAdd_b c] at hw ⊢
      exact hw
  refine s_qWant hB (by decide) (RqM.good h) (fun z hz => ?_)
  by_cases c : (qSgn T n 40 (-1, k, Q)).1 = -1
  · refine bn_t (by rw [hz.e]; exact c) ?_
    have gz := hz.gd c
    obtain ⟨u1, -, u3, -, u5, -⟩ := hB.fq gz.1
    rw [k_plM, pl1]
    refine ⟨by rw [show fN z 4 = 384 from u3 4]; exact vp_in_nI (by omega) (by decide), ?_⟩
    rw [rA_nI (by omega), (u5.2.2.1 f hf).2.1]
    refine s_qLit hB gz (fun w hw => ⟨65 + 1, s_qLstL hB hf K 65 _ w (fun _ => by omega) hw ?_⟩)
    rw [qBd_g c]
  · refine bn_f (by rw [hz.e]; exact c) ⟨65 + 1, s_qLstL hB hf K 65 _ z (fun _ => by omega) hz ?_⟩
    rw [qBd_b c]
theorem s_qCmp (hB : BsM x T n F s) {post : St → Prop} {f k q : Nat} (hq : q ≤ n) (hf : f < F.length) (h : GdM b n s x y k Q) (p : ∀ z, RqM b n s x (qCmp T n F q f k Q) z → post z) :
    wp_Mod_operator (fun (r2092 : Int32) (x2091 : St) => (((fI x2091 0 17) = (-1) → wp_Mod_blanks (fun (x2094 : St) => wp_Mod_wordAt (fun (r2096 : Int32) (x2095 : St) => ((r2096 ≤ 0 → j_Mod_readAsked_326 post (nI q) (nI f) (nI Q.2.2.2.length) r2092 x2095) ∧ (¬ r2096 ≤ 0 → wp_Mod_sees (fun (r2099 : Int32) (x2098 : St) => ((¬ r2099 = 0 → j_Mod_readAsked_326 post (nI q) (nI f) (nI Q.2.2.2.length) r2092 x2098) ∧ (r2099 = 0 → wp_Mod_sees (fun (r2102 : Int32) (x2101 : St) => ((¬ r2102 = 0 → j_Mod_readAsked_326 post (nI q) (nI f) (nI Q.2.2.2.length) r2092 x2101) ∧ (r2102 = 0 → (∀ v2104 : Int32, v2104 = (fI x2101 0 16) → wp_Mod_flatColumn (fun (r2106 : Int32) (x2105 : St) => ((¬ (fI x2105 0 17) = (-1) → j_Mod_readAsked_311 post (nI q) (nI f) (nI Q.2.2.2.length) r2092 v2104 r2106 x2105) ∧ ((fI x2105 0 17) = (-1) → wp_Mod_place (fun (r2109 : Int32) (x2108 : St) => (vp_in r2109 (fN x2108 4) ∧ wp_Mod_place (fun (r2111 : Int32) (x2110 : St) => (vp_in r2111 (fN x2110 4) ∧ (((rA x2108 4 r2109) = (rA x2110 4 r2111) → j_Mod_readAsked_311 post (nI q) (nI f) (nI Q.2.2.2.length) r2092 v2104 r2106 x2110) ∧ (¬ (rA x2108 4 r2109) = (rA x2110 4 r2111) → wp_Mod_place (fun (r2114 : Int32) (x2113 : St) => (vp_in r2114 (fN x2113 4) ∧ wp_Mod_isWhole (fun (r2116 : Int32) (x2115 : St) => ((r2116 = 0 → j_Mod_readAsked_305 post (nI q) (nI f) (nI Q.2.2.2.length) r2092 v2104 r2106 x2115) ∧ (¬ r2116 = 0 → wp_Mod_place (fun (r2119 : Int32) (x2118 : St) => (vp_in r2119 (fN x2118 4) ∧ wp_Mod_isWhole (fun (r2121 : Int32) (x2120 : St) => ((¬ r2121 = 0 → j_Mod_readAsked_311 post (nI q) (nI f) (nI Q.2.2.2.length) r2092 v2104 r2106 x2120) ∧ (r2121 = 0 → j_Mod_readAsked_305 post (nI q) (nI f) (nI Q.2.2.2.length) r2092 v2104 r2106 x2120))) (rA x2118 4 r2119) x2118)) 1 r2106 x2115))) (rA x2113 4 r2114) x2113)) 1 (nI f) x2110)))) 1 r2106 x2108)) 1 (nI f) x2105)))  x2101)))) 439721161573 x2098))) 1953658213 x2095))) (fI x2094 0 16) x2094)  x2091) ∧ (¬ (fI x2091 0 17) = (-1) → post x2091)))  y := by
  have hF := hB.2.2.2.1.1
  have t2 := hB.2.1
  have hk := h.2.2.2.1
  unfold qCmp at p
  refine s_qOp hB h (fun c z hz => br_t hz.2.1 ?_) (fun c v z hz => br_f (by rw [hz.2.1]; exact c) (p z ?_))
  rotate_left
  · rw [if_pos c]; exact hz.rs c
  rw [if_neg (fun q => q c)] at p
  have ho := qOp_w (by omega) hk c
  generalize (qOp T n k).2.2 = op at *
  generalize (qOp T n k).2.1 = k1 at *
  clear c
  refine s_qBlanks hB (RqM.good hz) (fun w hw => ?_)
  have gw : GdM b n s x w (skip T n k1) Q := hw.gd rfl
  rw [gw.2.2.1]
  have sl := gw.2.2.2.1
  have lit : ∀ v, GdM b n s x v (skip T n k1) Q → ¬ (0 < wln T n (skip T n k1) ∧ ¬ isWd T n (skip T n k1) [116, 114, 117, 101] ∧ ¬ isWd T n (skip T n k1) [102, 97, 108, 115, 101]) → j_Mod_readAsked_326 post (nI q) (nI f) (nI Q.2.2.2.length) (nI op) v := by
    intro v gv cn
    rw [if_neg cn] at p
    obtain ⟨u1, -, u3, -, u5, -⟩ := hB.fq gv.1
    unfold j_Mod_readAsked_326
    rw [k_plM, pl1]
    refine ⟨by rw [show fN v 4 = 384 from u3 4]; exact vp_in_nI (by omega) (by decide), ?_⟩
    rw [rA_nI (by omega), (u5.2.2.1 f hf).2.1]
    refine s_qLit hB gv (fun u hu => ?_)
    exact s_qAdd hB (l := (3, nI f, nI op, nI Q.2.2.2.length, 1)) (by omega) hu p
  have hwl := @wln_le T n (skip T n k1) sl
  refine s_wordAt (hB.fq gw.1).1 (by omega) ?_
  by_cases c1 : 0 < wln T n (skip T n k1)
  · refine br_f (by (first | omega | (simp (disch := omega) only [Int32.le_iff_toInt_le, Int32.lt_iff_toInt_lt, z_eq, z_in, nI_toInt, z_cl, z_m1, z_sg, z_255, Int32.reduceToInt] <;> omega) | (simp only [Int32.le_iff_toInt_le, Int32.lt_iff_toInt_lt, z_eq, z_in, z_add, z_sub, z_mul, z_neg, z_nI, z_cl, z_sg, z_255, z_lit, Int32.reduceToInt] <;> omega))) (s_qSees hB gw_tr.1 gw_tr.2 (RqM.good gw) (fun _ c2 v hv => bn_f (by decide) ?_) (fun c2 v hv => bn_t rfl ?_))
    · have c2 : isWd T n (skip T n (skip T n k1)) [116, 114, 117, 101] := c2
      have hv := hv.gd rfl
      have hv : GdM b n s x v (skip T n (skip T n k1)) Q := hv
      rw [skip_skip] at c2 hv
      exact lit v hv (fun z => z.2.1 c2)
    · have c2 : ¬ ((-1 : Int32) = -1 ∧ isWd T n (skip T n (skip T n k1)) [116, 114, 117, 101]) := c2
      have hv : RqM b n s x (-1, skip T n (skip T n k1), Q) v := hv
      rw [skip_skip] at c2 hv
      have c2 : ¬ isWd T n (skip T n k1) [116, 114, 117, 101] := fun z => c2 ⟨rfl, z⟩
      refine s_qSees hB gw_fa.1 gw_fa.2 hv (fun _ c3 u hu => bn_f (by decide) ?_) (fun c3 u hu => bn_t rfl ?_)
      · have c3 : isWd T n (skip T n (skip T n k1)) [102, 97, 108, 115, 101] := c3
        have hu := hu.gd rfl
        have hu : GdM b n s x u (skip T n (skip T n k1)) Q := hu
        rw [skip_skip] at c3 hu
        exact lit u hu (fun z => z.2.2 c3)
      · have c3 : ¬ ((-1 : Int32) = -1 ∧ isWd T n (skip T n (skip T n k1)) [102, 97, 108, 115, 101]) := c3
        have hu : RqM b n s x (-1, skip T n (skip T n k1), Q) u := hu
        rw [skip_skip] at c3 hu
        have c3 : ¬ isWd T n (skip T n k1) [102, 97, 108, 115, 101] := fun z => c3 ⟨rfl, z⟩
        clear lit
        rw [if_pos ⟨c1, c2, c3⟩] at p
        have gu : GdM b n s x u (skip T n k1) Q := hu.gd rfl
        refine nm_r gu.2.2.1 (s_qCol hB hu (fun _ c4 v2 hv2 => bn_t hv2.2.1 ?_) (fun c4 vv v2 hv2 => ?_))
        · have c4 : (qCol T n F (skip T n k1)).1 = -1 := c4
          have hv2 : GdM b n s x v2 (qCol T n F (skip T n k1)).2.1 Q := hv2
          rw [if_neg (fun z => z c4)] at p
          obtain ⟨hg, -⟩ := qCol_f hB.2.2.2.1 (by omega) sl c4
          show wp_Mod_place (fun (r2109 : Int32) (x2108 : St) => _) 1 (nI f) v2
          obtain ⟨u1, -, u3, -, u5, -⟩ := hB.fq hv2.1
          have l4 : fN v2 4 = 384 := u3 4
          rw [k_plM, pl1, l4, rA_nI (by omega), (u5.2.2.1 f hf).2.1]
          have if4 : vp_in (nI (128 + f)) 384 := vp_in_nI (by omega) (by decide)
          refine ⟨if4, ?_⟩
          show wp_Mod_place _ 1 (nI (qCol T n F (skip T n k1)).2.2) v2
          have eg : fA v2 4 (128 + (qCol T n F (skip T n k1)).2.2) = fTy F (qCol T n F (skip T n k1)).2.2 := (u5.2.2.1 _ hg).2.1
          generalize (qCol T n F (skip T n k1)).2.2 = g at *
          have ig4 : vp_in (nI (128 + g)) 384 := vp_in_nI (by omega) (by decide)
          rw [k_plM, pl1, l4, rA_nI (by omega), eg]
          refine ⟨ig4, ?_⟩
          have ok : (fTy F f = fTy F g ∨ whl (fTy F f) ∧ whl (fTy F g)) → j_Mod_readAsked_311 post (nI q) (nI f) (nI Q.2.2.2.length) (nI op) (nI (skip T n k1)) (nI g) v2 := by
            intro d
            rw [if_neg (fun z => z d)] at p
            unfold j_Mod_readAsked_311
            exact s_qAdd hB (l := (4, nI f, nI op, nI g, 0)) (by omega) (RqM.good hv2) p
          have no : ¬ (fTy F f = fTy F g ∨ whl (fTy F f) ∧ whl (fTy F g)) → j_Mod_readAsked_305 post (nI q) (nI f) (nI Q.2.2.2.length) (nI op) (nI (skip T n k1)) (nI g) v2 := by
            intro d
            rw [if_pos d] at p
            unfold j_Mod_readAsked_305
            refine s_qFail hB (by omega) (RqM.good hv2) (fun w2 hw2 => ?_)
            have hw2 : RqM b n s x (nI (skip T n k1), (qCol T n F (skip T n k1)).2.1, Q) w2 := hw2
            unfold j_Mod_readAsked_311
            refine s_qAdd hB (l := (4, nI f, nI op, nI g, 0)) (by omega) hw2 (fun w3 hw3 => p w3 ?_)
            rw [qAdd_b (nI_nm1 (by omega))] at hw3
            exact hw3
          by_cases d1 : fTy F f = fTy F g
          · exact br_t d1 (ok (Or.inl d1))
          · refine br_f d1 ?_
            rw [k_plM, pl1, l4, rA_nI (by omega), (u5.2.2.1 f hf).2.1]
            refine ⟨if4, ?_⟩
            have wh : ∀ {P : Int32 → St → Prop} {t : Int32}, P (if whl t then 1 else 0) v2 → wp_Mod_isWhole P t v2 := by
              intro P t hP
              unfold wp_Mod_isWhole j_Mod_isWhole_10
              by_cases e1 : t = 1
              · rw [if_pos (Or.inl e1)] at hP; exact br_t e1 hP
              · by_cases e2 : t = 2
                · rw [if_pos (Or.inr e2)] at hP; exact br_f e1 (bn_t e2 hP)
                · rw [if_neg (fun z => z.elim e1 e2)] at hP; exact br_f e1 (bn_f e2 hP)
            refine wh ?_
            by_cases d2 : whl (fTy F f)
            · rw [if_pos d2]
              refine br_f (by decide) ?_
              rw [k_plM, pl1, l4, rA_nI (by omega), eg]
              refine ⟨ig4, wh ?_⟩
              by_cases d3 : whl (fTy F g)
              · rw [if_pos d3]; exact bn_f (by decide) (ok (Or.inr ⟨d2, d3⟩))
              · rw [if_neg d3]; exact bn_t rfl (no (fun z => z.elim d1 (fun z => d3 z.2)))
            · rw [if_neg d2]; exact br_t rfl (no (fun z => z.elim d1 (fun z => d2 z.1)))
        · have c4 : ¬ (qCol T n F (skip T n k1)).1 = -1 := c4
          have hv2 : FfM b s x v2 (qCol T n F (skip T n k1)).1 := hv2
          rw [if_pos c4] at p
          refine bn_f (by rw [hv2.2.1]; exact c4) ?_
          unfold j_Mod_readAsked_311
          refine s_qAdd hB (l := (4, nI f, nI op, vv, 0)) (by omega) (hv2.rs (k := (qCol T n F (skip T n k1)).2.1) (Q := Q) c4) (fun w3 hw3 => p w3 ?_)
          rw [qAdd_b c4] at hw3
          exact hw3
  · exact br_t (by (first | omega | (simp (disch := omega) only [Int32.le_iff_toInt_le, Int32.lt_iff_toInt_lt, z_eq, z_in, nI_toInt, z_cl, z_m1, z_sg, z_255, Int32.reduceToInt] <;> omega) | (simp only [Int32.le_iff_toInt_le, Int32.lt_iff_toInt_lt, z_eq, z_in, z_add, z_sub, z_mul, z_neg, z_nI, z_cl, z_sg, z_255, z_lit, Int32.reduceToInt] <;> omega))) (lit w gw (fun z => c1 z.1))
theorem s_qAsk (hB : BsM x T n F s) {post : St → Prop} {k : Nat} (h : GdM b n s x y k Q) (p : ∀ z, RqM b n s x (qAsk T n F k Q) z → post z) : wp_Mod_readAsked post (nI (skip T n k)) y := by
  have hF := hB.2.2.2.1.1
  have t2 := hB.2.1
  have hk := h.2.2.2.1
  have sl := @skip_le T n k hk
  unfold wp_Mod_readAsked
  unfold qAsk at p
  refine s_qCol hB (RqM.good h) (fun _ c z hz => ?_) (fun c v z hz => ?_)
  rotate_left
  · have c : ¬ (qCol T n F k).1 = -1 := c
    have hz : FfM b s x z (qCol T n F k).1 := hz
    rw [if_pos c] at p
    exact br_f (by rw [hz.2.1]; exact c) (p z (hz.rs c))
  have c : (qCol T n F k).1 = -1 := c
  have hz : GdM b n s x z (qCol T n F k).2.1 Q := hz
  rw [if_neg (fun q => q c)] at p
  obtain ⟨hf, -⟩ := qCol_f hB.2.2.2.1 (by omega) hk c
  show (fI z 0 17 = -1 → _) ∧ _
  refine br_t hz.2.1 ?_
  show wp_Mod_takesWord (fun (r2085 : Int32) (x2084 : St) => (r2085 = 0 → vp_in ((4 * (fI x2084 0 118)) + 3) (fN x2084 79) ∧ (∀ v2087 : Int32, v2087 = (rA x2084 79 ((4 * (fI x2084 0 118)) + 3)) → _)) ∧ _) _ z
  generalize (qCol T n F k).2.2 = f at *
  generalize (qCol T n F k).2.1 = k1 at *
  clear c h
  refine s_qWord hB gw_is.1 gw_is.2 (RqM.good hz) (fun _ c1 w hw => br_f (by decide) ?_) (fun c1 w hw => br_t rfl ?_)
  · have c1 : isWd T n (skip T n k1) [105, 115] := c1
    have hw : RqM b n s x (-1, skip T n k1 + 2, Q) w := hw
    rw [if_pos c1] at p
    unfold qIs at p
    have m50 : ∀ (v : Int32) (kk : Nat) (rr : QR) (u : St), RqM b n s x rr u → (∀ z, RqM b n s x (qAdd (skip T n k) (if v = 0 then 0 else 1, nI f, -1, -1, 0) rr) z → post z) → j_Mod_readAsked_50 post (nI (skip T n k)) (nI f) v u := by
      intro v kk rr u hu pp
      unfold j_Mod_readAsked_50 j_Mod_readAsked_61
      by_cases e : v = 0
      · rw [if_pos e] at pp
        exact br_t e (s_qAdd hB (l := (0, nI f, -1, -1, 0)) (by omega) hu pp)
      · rw [if_neg e] at pp
        exact br_f e (s_qAdd hB (l := (1, nI f, -1, -1, 0)) (by omega) hu pp)
    refine s_qWord hB gw_no.1 gw_no.2 hw (fun _ c2 v hv => ?_) (fun c2 v hv => ?_)
    · have c2 : isWd T n (skip T n (skip T n k1 + 2)) [110, 111, 116] := c2
      rw [if_pos c2] at p
      exact s_qNeed hB gw_nu hv (fun u hu => m50 1 0 _ u hu p)
    · have c2 : ¬ ((-1 : Int32) = -1 ∧ isWd T n (skip T n (skip T n k1 + 2)) [110, 111, 116]) := c2
      rw [if_neg (fun q => c2 ⟨rfl, q⟩)] at p
      exact s_qNeed hB gw_nu hv (fun u hu => m50 0 0 _ u hu p)
  have c1 : ¬ ((-1 : Int32) = -1 ∧ isWd T n (skip T n k1) [105, 115]) := c1
  rw [if_neg (fun q => c1 ⟨rfl, q⟩)] at p
  have gw : GdM b n s x w (skip T n k1) Q := hw.gd rfl
  obtain ⟨u1, -, u3, -, u5, u6, u7⟩ := hB.fq gw.1
  rw [u6, q43, show fN w 79 = 12 from u3 79, rA_nI (by omega), gw.2.2.2.2.1.2.2.2.1]
  refine ⟨vp_in_nI (by omega) (by decide), nm_e ?_⟩
  refine s_qWord hB gw_in.1 gw_in.2 (RqM.good gw) (fun _ c2 v hv => br_f (by decide) ?_) (fun c2 v hv => br_t rfl ?_)
  · have c2 : isWd T n (skip T n (skip T n k1)) [105, 110] := c2
    have hv : RqM b n s x (-1, skip T n (skip T n k1) + 2, Q) v := hv
    rw [skip_skip] at c2 hv
    rw [if_pos c2] at p
    exact s_qIn hB sl hf (hv.gd rfl) p
  · have c2 : ¬ ((-1 : Int32) = -1 ∧ isWd T n (skip T n (skip T n k1)) [105, 110]) := c2
    have hv : RqM b n s x (-1, skip T n (skip T n k1), Q) v := hv
    rw [skip_skip] at c2 hv
    rw [if_neg (fun q => c2 ⟨rfl, q⟩)] at p
    exact s_qCmp hB sl hf (hv.gd rfl) p
end
