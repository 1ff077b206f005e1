/-! tests of a query, class: comparisons, all -/
section
variable {b : Prop} {q n o : Nat} {T : Nat → Int32} {F : List SFd} {x y : St} {Q : Qy} {k : Nat}
theorem BsC.ty (hB : BsC x q n F o) {z : St} (h : FqC b o x z) {f : Nat} (hf : f < F.length) : vp_in (nI f) (fN z (stC 70 3)) ∧ rA z (stC 70 3) (nI f) = fTy F f ∧ vp_in (nI f) (fN z (stC 70 9)) ∧ rA z (stC 70 9) (nI f) = nI (ncol (F.take f)) := by
  obtain ⟨-, hL, hw, hR, -⟩ := hB.fq h
  have hF := hw.1
  have l3 : fN z (stC 70 3) = 128 := hL 72 (by decide)
  have l9 : fN z (stC 70 9) = 128 := hL 78 (by decide)
  have r := hR.2.2.2.1 f hf
  rw [l3, l9, rA_nI (by omega), rA_nI (by omega)]
  exact ⟨vp_in_nI (by omega) (by decide), r.2.1, vp_in_nI (by omega) (by decide), r.2.2.2.2.2.2.2.1⟩
theorem colI_n {f : Nat} (h : f < 2 ^ 31) : colI F (nI f) = nI (ncol (F.take f)) := by unfold colI; rw [nI_clamp h]
theorem k_qCmp (hB : BsC x q n F o) {post : St → Prop} {f p : Nat} (hp : p ≤ n) (hf : f < F.length) (h : GdC b q T n F o x y k Q) (pp : ∀ z, RqC b q T n F o x (qCmp T n F p f k Q) z → post z) : wp_Qry_readComparison post o (nI f) (nI p) y := by
  have t2 := hB.1
  have hF := hB.2.2.1.1
  have hk := h.2.1.2.2.2
  obtain ⟨-, -, -, -, t5, t6, t7, -⟩ := hB.fq h.1
  obtain ⟨y1, y2, y3, y4⟩ := hB.ty h.1 hf
  unfold wp_Qry_readComparison
  refine ⟨70, t6, y1, nm_r y2 ⟨70, t6, y3, nm_r y4 ?_⟩⟩
  unfold qCmp at pp
  refine k_qOp hB h (fun c z hz => ?_) (fun c v z hz => ?_)
  rotate_left
  · obtain ⟨-, -, -, -, u5, -, -, -⟩ := hB.fq hz.1
    rw [if_pos c] at pp
    exact ⟨10, u5, k_qGood (r := ((qOp T n k).1, (qOp T n k).2.1, Q)) (F := F) (hz.rs c) (fun e => absurd e c) (fun _ => bn_t rfl (pp z (hz.rs c)))⟩
  rw [if_neg (fun e => e c)] at pp
  have ho := qOp_w (by omega) hk c
  generalize (qOp T n k).2.2 = op at *
  generalize (qOp T n k).2.1 = k1 at *
  clear c
  obtain ⟨-, -, -, -, u5, u6, -, -⟩ := hB.fq hz.1
  refine ⟨10, u5, k_qGood (RqC.good hz) (fun _ => bn_f (by decide) ⟨10, u5, ?_⟩) (fun e => absurd rfl e)⟩
  refine k_qNext hB hz (fun w gw _ => c_isLetter ?_)
  have sl := gw.2.1.2.2.2
  have key : ltr (if skip T n k1 < n then T (skip T n k1) else -1) ↔ 0 < wln T n (skip T n k1) := by
    rw [wln_pos]
    by_cases c : skip T n k1 < n
    · rw [if_pos c]; exact ⟨fun z => ⟨c, z⟩, fun z => z.2⟩
    · rw [if_neg c]; exact ⟨fun z => absurd z (by decide), fun z => absurd z.1 c⟩
  have cl3 : clS F (3, nI f, nI op, nI Q.2.2.2.length, 1) = (cop (nI op), nI (ncol (F.take f)), nI Q.2.2.2.length, 1) := by
    unfold clS
    rw [if_neg (by show ¬ (3 : Int32) = 0; decide), if_neg (by show ¬ (3 : Int32) = 1; decide), if_neg (by show ¬ (3 : Int32) = 2; decide), if_pos rfl, colI_n (by omega)]
  have lit : ∀ v, GdC b q T n F o x v (skip T n k1) Q → ¬ (0 < wln T n (skip T n k1) ∧ ¬ isWd T n (skip T n k1) [116, 114, 117, 101] ∧ ¬ isWd T n (skip T n k1) [102, 97, 108, 115, 101]) → j_Qry_readComparison_58 post o (nI f) (nI p) (fTy F f) (nI (ncol (F.take f))) (cop (nI op)) v := by
    intro v gv cn
    rw [if_neg cn] at pp
    unfold j_Qry_readComparison_58
    refine k_qLit hB gv (fun u hu => ?_)
    by_cases c2 : (qLit T n (fTy F f) (skip T n k1) Q).1 = -1
    · obtain ⟨k', l, e, -⟩ := qLit_w (show n < 2 ^ 31 by omega) sl c2
      have e13 : fI u o 13 - 1 = nI Q.2.2.2.length := by
        have := (hu.gd c2).2.2.1.2.2.2.1
        rw [this, e]
        show nI (Q.2.2.2 ++ [l]).length - nI 1 = _
        rw [List.length_append]
        show nI (Q.2.2.2.length + 1) - nI 1 = _
        rw [nI_sub (by omega), Nat.add_sub_cancel]
      rw [e13]
      have := k_qAdd hB (l := (3, nI f, nI op, nI Q.2.2.2.length, 1)) (show p < 2 ^ 31 by omega) hu pp
      rw [cl3] at this
      exact this
    · obtain ⟨-, -, -, -, x5, -, -, -⟩ := hB.fq hu.fq
      unfold wp_Qry_addStep
      rw [qAdd_b c2] at pp
      exact ⟨10, x5, k_qGood hu (fun e => absurd e c2) (fun _ => bn_t rfl (pp u hu))⟩
  by_cases c1 : 0 < wln T n (skip T n k1)
  · rw [if_pos (key.mpr c1)]
    refine br_f (by decide) (k_truth hB gw (skip_skip _ _ _) (fun v gv => ?_))
    by_cases c2 : isWd T n (skip T n k1) [116, 114, 117, 101] ∨ isWd T n (skip T n k1) [102, 97, 108, 115, 101]
    · rw [if_pos c2]
      exact br_f (by decide) (lit v gv (fun z => c2.elim z.2.1 z.2.2))
    · rw [if_neg c2]
      rw [if_pos ⟨c1, fun e => c2 (Or.inl e), fun e => c2 (Or.inr e)⟩] at pp
      clear lit
      refine br_t rfl (k_qCol hB gv (fun c4 u gu u19 => ?_) (fun c4 vv u hu => ?_))
      · rw [if_neg (fun e => e c4)] at pp
        obtain ⟨hg, -⟩ := qCol_f hB.2.2.1 (by omega) sl c4
        obtain ⟨-, -, -, -, x5, x6, -, -⟩ := hB.fq gu.1
        rw [skip_skip] at u19
        generalize (qCol T n F (skip T n k1)).2.2 = g at *
        generalize (qCol T n F (skip T n k1)).2.1 = k3 at *
        obtain ⟨z1, z2, z3, z4⟩ := hB.ty gu.1 hg
        refine ⟨10, x5, k_qGood (RqC.good gu) (fun _ => bn_f (by decide) ⟨70, x6, z1, nm_r z2 ?_⟩) (fun e => absurd rfl e)⟩
        have cl4 : clS F (4, nI f, nI op, nI g, 0) = (cop (nI op), nI (ncol (F.take f)), nI (ncol (F.take g)), 0) := by
          unfold clS
          rw [if_neg (by show ¬ (4 : Int32) = 0; decide), if_neg (by show ¬ (4 : Int32) = 1; decide), if_neg (by show ¬ (4 : Int32) = 2; decide), if_neg (by show ¬ (4 : Int32) = 3; decide), if_pos rfl, colI_n (by omega)]
          show (_, _, colI F (nI g), _) = _
          rw [colI_n (by omega)]
        have ok : (fTy F f = fTy F g ∨ whl (fTy F f) ∧ whl (fTy F g)) → j_Qry_readComparison_141 post o (nI f) (nI p) (fTy F f) (nI (ncol (F.take f))) (cop (nI op)) (nI g) (fTy F g) u := by
          intro d
          rw [if_neg (fun e => e d)] at pp
          unfold j_Qry_readComparison_141
          refine ⟨70, x6, z3, ?_⟩
          rw [z4]
          have := k_qAdd hB (l := (4, nI f, nI op, nI g, 0)) (show p < 2 ^ 31 by omega) (RqC.good gu) pp
          rw [cl4] at this
          exact this
        have no : ¬ (fTy F f = fTy F g ∨ whl (fTy F f) ∧ whl (fTy F g)) → j_Qry_readComparison_130 post o (nI f) (nI p) (fTy F f) (nI (ncol (F.take f))) (cop (nI op)) (nI g) (fTy F g) u := by
          intro d
          rw [if_pos d] at pp
          have ne : ¬ nI (skip T n k1) = -1 := nI_nm1 (by omega)
          unfold j_Qry_readComparison_130
          refine ⟨10, x5, ?_⟩
          rw [u19]
          refine k_qRef hB (by omega) (RqC.good gu) (fun a ha => ?_)
          have ha : RqC b q T n F o x (nI (skip T n k1), k3, Q) a := ha
          obtain ⟨-, -, -, -, w5, w6, -, -⟩ := hB.fq ha.fq
          obtain ⟨q1, q2, q3, q4⟩ := hB.ty ha.fq hg
          unfold j_Qry_readComparison_141
          refine ⟨70, w6, q3, ?_⟩
          unfold wp_Qry_addStep
          exact ⟨10, w5, k_qGood ha (fun e => absurd e ne) (fun _ => bn_t rfl (pp a ha))⟩
        by_cases d1 : fTy F f = fTy F g
        · exact br_t d1 (ok (Or.inl d1))
        · refine br_f d1 (k_whl ?_)
          by_cases d2 : whl (fTy F f)
          · rw [if_pos d2]
            refine br_f (by decide) (k_whl ?_)
            by_cases d3 : whl (fTy F g)
            · rw [if_pos d3]; exact bn_f (by decide) (ok (Or.inr ⟨d2, d3⟩))
            · rw [if_neg d3]; exact bn_t rfl (no (fun z => z.elim d1 (fun z => d3 z.2)))
          · rw [if_neg d2]; exact br_t rfl (no (fun z => z.elim d1 (fun z => d2 z.1)))
      · rw [if_pos c4] at pp
        obtain ⟨-, -, -, -, x5, -, -, -⟩ := hB.fq hu.1
        exact ⟨10, x5, k_qGood (r := ((qCol T n F (skip T n k1)).1, (qCol T n F (skip T n k1)).2.1, Q)) (F := F) (hu.rs c4) (fun e => absurd e c4) (fun _ => bn_t rfl (pp u (hu.rs c4)))⟩
  · rw [if_neg (fun e => c1 (key.mp e))]
    exact br_t rfl (lit w gw (fun z => c1 z.1))
/-- what stands in readTest behind 'not' and '(' -/
abbrev ptC (post : St → Prop) (SC ST : (St → Prop) → Nat → Int32 → St → Prop) (o : Nat) (l1 v17 r20 : Int32) (x23 : St) : Prop := wp_Qry_readColumn (fun (r27 : Int32) (x26 : St) => (∃ q28 : Nat, fR x26 o 17 = some q28 ∧ wp_Scn_good (fun (r30 : Int32) (x29 : St) => ((¬ r30 = 0 → (∃ q32 : Nat, fR x29 o 18 = some q32 ∧ (vp_in r27 (fN x29 (stC q32 9)) ∧ (∀ v33 : Int32, v33 = (rA x29 (stC q32 9) r27) → (∃ q34 : Nat, fR x29 o 17 = some q34 ∧ wp_Scn_takeWord (fun (r36 : Int32) (x35 : St) => ((r36 = 0 → (∃ q38 : Nat, fR x35 o 17 = some q38 ∧ wp_Scn_takeWord (fun (r40 : Int32) (x39 : St) => ((r40 = 0 → wp_Qry_readComparison (fun (x42 : St) => post x42) o r27 v17 x39) ∧ (¬ r40 = 0 → (∀ v43 : Int32, v43 = (fI x39 o 13) → (∃ q44 : Nat, fR x39 o 18 = some q44 ∧ (vp_in r27 (fN x39 (stC q44 3)) ∧ wp_Qry_readList (fun (x45 : St) => wp_Qry_addStep (fun (x46 : St) => post x46) o 8 v17 v33 v43 ((fI x45 o 13) - v43) x45) o (rA x39 (stC q44 3) r27) x39)))))) q38 23 x35)) ∧ (¬ r36 = 0 → (∃ q47 : Nat, fR x35 o 17 = some q47 ∧ wp_Scn_takeWord (fun (r49 : Int32) (x48 : St) => ((r49 = 0 → j_Qry_readTest_160 post SC ST o l1 v17 r20 r27 v33 6 x48) ∧ (¬ r49 = 0 → j_Qry_readTest_160 post SC ST o l1 v17 r20 r27 v33 7 x48))) q47 20 x35)))) q34 21 x29))))) ∧ (r30 = 0 → post x29))) q28 x26)) o x23
theorem k_qAsk (hB : BsC x q n F o) {post : St → Prop} {SC ST : (St → Prop) → Nat → Int32 → St → Prop} {l1 l3 : Int32} {p : Nat} (ep : skip T n k = p) (h : GdC b q T n F o x y k Q) (pp : ∀ z, RqC b q T n F o x (qAsk T n F k Q) z → post z) : ptC post SC ST o l1 (nI p) l3 y := by
  subst ep
  have t2 := hB.1
  have hF := hB.2.2.1.1
  have hk := h.2.1.2.2.2
  have sl0 := @skip_le T n k hk
  unfold qAsk at pp
  refine k_qCol hB h (fun c z hz _ => ?_) (fun c vv z hz => ?_)
  rotate_left
  · rw [if_pos c] at pp
    obtain ⟨-, -, -, -, u5, -, -, -⟩ := hB.fq hz.1
    exact ⟨10, u5, k_qGood (r := ((qCol T n F k).1, (qCol T n F k).2.1, Q)) (F := F) (hz.rs c) (fun e => absurd e c) (fun _ => bn_t rfl (pp z (hz.rs c)))⟩
  rw [if_neg (fun e => e c)] at pp
  obtain ⟨hf, -, -, k1k, k1n⟩ := qCol_f hB.2.2.1 (by omega) hk c
  generalize (qCol T n F k).2.2 = f at *
  generalize (qCol T n F k).2.1 = k1 at *
  clear c
  obtain ⟨-, -, -, -, u5, u6, -, -⟩ := hB.fq hz.1
  obtain ⟨z1, z2, z3, z4⟩ := hB.ty hz.1 hf
  refine ⟨10, u5, k_qGood (RqC.good hz) (fun _ => bn_f (by decide) ?_) (fun e => absurd rfl e)⟩
  refine ⟨70, u6, z3, nm_r z4 ⟨10, u5, ?_⟩⟩
  refine k_qWord hB st_is (by decide) hz (fun c1 w gw _ _ => br_f (by decide) ?_) (fun c1 w gw _ => br_t rfl ?_)
  · rw [if_pos c1] at pp
    unfold qIs at pp
    have gw : GdC b q T n F o x w (skip T n k1 + 2) Q := gw
    obtain ⟨-, -, -, -, v5, v6, -, -⟩ := hB.fq gw.1
    have m62 : ∀ (v fm : Int32) (k3 : Nat) (u : St), (v = 0 ∧ fm = 6 ∨ v = 1 ∧ fm = 7) → GdC b q T n F o x u k3 Q → (∀ z, RqC b q T n F o x (qAdd (skip T n k) (v, nI f, -1, -1, 0) (qWrd T n [110, 117, 108, 108] (-1, k3, Q))) z → post z) → j_Qry_readTest_160 post SC ST o l1 (nI (skip T n k)) l3 (nI f) (nI (ncol (F.take f))) fm u := by
      intro v fm k3 u hv gu qq
      obtain ⟨-, -, -, -, w5, -, -, -⟩ := hB.fq gu.1
      unfold j_Qry_readTest_160
      refine ⟨10, w5, k_qNeedW hB st_nu (by decide) (RqC.good gu) (fun a ha _ => ?_)⟩
      have := k_qAdd hB (l := (v, nI f, -1, -1, 0)) (show skip T n k < 2 ^ 31 by omega) ha qq
      have ec : clS F (v, nI f, -1, -1, 0) = (fm, nI (ncol (F.take f)), 0, 0) := by
        unfold clS
        rcases hv with ⟨e1, e2⟩ | ⟨e1, e2⟩
        · subst e1 e2
          rw [if_pos rfl, colI_n (by omega)]
        · subst e1 e2
          rw [if_neg (by show ¬ (1 : Int32) = 0; decide), if_pos rfl, colI_n (by omega)]
      rw [ec] at this
      exact this
    refine ⟨10, v5, k_qWord hB st_no (by decide) gw (fun c2 v gv _ _ => br_f (by decide) ?_) (fun c2 v gv _ => br_t rfl ?_)⟩
    · rw [if_pos c2] at pp
      exact m62 1 7 _ v (Or.inr ⟨rfl, rfl⟩) gv pp
    · rw [if_neg c2] at pp
      exact m62 0 6 _ v (Or.inl ⟨rfl, rfl⟩) gv pp
  · rw [if_neg c1] at pp
    obtain ⟨-, -, -, -, v5, v6, -, -⟩ := hB.fq gw.1
    refine ⟨10, v5, k_qWord hB st_in (by decide) gw (fun c2 v gv _ _ => br_f (by decide) ?_) (fun c2 v gv _ => br_t rfl ?_)⟩
    · have gv : GdC b q T n F o x v (skip T n (skip T n k1) + 2) Q := gv
      rw [skip_skip] at c2 gv
      rw [if_pos c2] at pp
      unfold qIn at pp
      obtain ⟨-, -, -, -, w5, w6, -, -⟩ := hB.fq gv.1
      obtain ⟨q1, q2, q3, q4⟩ := hB.ty gv.1 hf
      have hkk := gv.2.1.2.2.2
      refine nm_r gv.2.2.1.2.2.2.1 ⟨70, w6, q1, ?_⟩
      rw [q2]
      refine k_qLst hB gv (fun u hu => ?_)
      generalize hr : qBd (qBd (qSgn T n 40 (-1, skip T n k1 + 2, Q)) (qLit T n (fTy F f))) (qLst T n (fTy F f) 65) = r at *
      by_cases c3 : r.1 = -1
      · have ln : Q.2.2.2.length ≤ r.2.2.2.2.2.length := by
          rw [← hr] at c3 ⊢
          obtain ⟨d1, e1⟩ := qBd_q c3
          obtain ⟨d2, e2⟩ := qBd_q d1
          obtain ⟨-, e3, k3⟩ := qSgn_q d2 (by omega) (show skip T n k1 + 2 ≤ n from hkk)
          rw [e2] at d1
          obtain ⟨k4, l, e4, -, -, k5⟩ := qLit_w (by omega) (by rw [e3]; exact k3) d1
          rw [e1] at c3
          obtain ⟨k6, L, e6, -⟩ := qLst_w (by omega) _ _ _ (by rw [e2, e4]; exact k5) c3
          rw [e1, e6]
          show _ ≤ ((qBd (qSgn T n 40 (-1, skip T n k1 + 2, Q)) (qLit T n (fTy F f))).2.2.2.2.2 ++ L).length
          rw [e2, e4, e3]
          show _ ≤ ((Q.2.2.2 ++ [l]) ++ L).length
          rw [List.length_append, List.length_append]
          omega
        rw [(hu.gd c3).2.2.1.2.2.2.1, nI_sub ln]
        have := k_qAdd hB (l := (2, nI f, -1, nI Q.2.2.2.length, nI (r.2.2.2.2.2.length - Q.2.2.2.length))) (show skip T n k < 2 ^ 31 by omega) hu pp
        have ec : clS F (2, nI f, -1, nI Q.2.2.2.length, nI (r.2.2.2.2.2.length - Q.2.2.2.length)) = (8, nI (ncol (F.take f)), nI Q.2.2.2.length, nI (r.2.2.2.2.2.length - Q.2.2.2.length)) := by
          unfold clS
          rw [if_neg (by show ¬ (2 : Int32) = 0; decide), if_neg (by show ¬ (2 : Int32) = 1; decide), if_pos rfl, colI_n (by omega)]
        rw [ec] at this
        exact this
      · obtain ⟨-, -, -, -, x5, -, -, -⟩ := hB.fq hu.fq
        unfold wp_Qry_addStep
        rw [qAdd_b c3] at pp
        exact ⟨10, x5, k_qGood hu (fun e => absurd e c3) (fun _ => bn_t rfl (pp u hu))⟩
    · rw [skip_skip] at c2 gv
      rw [if_neg c2] at pp
      exact k_qCmp hB sl0 hf gv pp
end
