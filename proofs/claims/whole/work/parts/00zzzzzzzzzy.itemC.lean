/-! items of a query, class -/
section
variable {q n o : Nat} {T : Nat → Int32} {F : List SFd} {x y : St} {Q : Qy} {k : Nat}
theorem ScC.aa {e : Int32} {z : St} {j a : Nat} {i v : Int32} (h : ScC z q T n j e) (hq : q ≠ a) : ScC (setA z a i v) q T n j e := h.a hq
theorem FqC.up {b c : Prop} {z : St} (h : FqC b o y z) (hb : b → c) : FqC c o y z :=
  h.mono (fun a k w => w.elim Or.inl (fun w => Or.inr ⟨w.1, w.2.elim Or.inl (fun w => Or.inr (w.elim Or.inl (fun w => Or.inr (w.elim Or.inl (fun w => Or.inr (w.elim Or.inl (fun w => Or.inr ⟨hb w.1, w.2⟩)))))))⟩)) (fun _ _ w => w) (fun _ _ w => w) (fun a w => w.elim Or.inl (fun w => Or.inr ⟨hb w.1, w.2⟩)) (fun _ w => w)
theorem GdC.self {b : Prop} (h : GdC b q T n F o x y k Q) : GdC False q T n F o y y k Q := ⟨Fg.refl y, h.2⟩
theorem k_qFm (hB : BsC x q n F o) {b : Prop} {post : Int32 → St → Prop} (h : GdC b q T n F o x y k Q)
    (p0 : qFm T n k = (skip T n k, 0) → ∀ z, GdC b q T n F o x z (skip T n k) Q → post 0 z)
    (p1 : ∀ w k2 z, (w = 1 ∨ w = 3 ∨ w = 4 ∨ w = 5) → qFm T n k = (skip T n k2, w) → GdC b q T n F o x z k2 Q → post (if w = 1 then 2 else w) z) : wp_Qry_readItemForm post o y := by
  obtain ⟨-, -, -, -, t5, -, t7, -⟩ := hB.fq h.1
  unfold wp_Qry_readItemForm
  unfold qFm at p0 p1
  refine ⟨10, t5, k_qWord hB st_co (by decide) h (fun c z gz _ _ => br_f (by decide) ?_) (fun c1 z gz _ => br_t rfl ?_)⟩
  · exact p1 1 _ z (Or.inl rfl) (by rw [if_pos c]; rfl) gz
  obtain ⟨-, -, -, -, u5, -, -, -⟩ := hB.fq gz.1
  refine ⟨10, u5, k_qWord hB st_su (by decide) gz (fun c w gw _ _ => br_f (by decide) ?_) (fun c2 w gw _ => br_t rfl ?_)⟩
  · rw [skip_skip] at c gw
    exact p1 3 _ w (Or.inr (Or.inl rfl)) (by rw [if_neg c1, if_pos c]; rfl) gw
  rw [skip_skip] at c2 gw
  obtain ⟨-, -, -, -, v5, -, -, -⟩ := hB.fq gw.1
  refine ⟨10, v5, k_qWord hB st_mi (by decide) gw (fun c v gv _ _ => br_f (by decide) ?_) (fun c3 v gv _ => br_t rfl ?_)⟩
  · rw [skip_skip] at c gv
    exact p1 4 _ v (Or.inr (Or.inr (Or.inl rfl))) (by rw [if_neg c1, if_neg c2, if_pos c]; rfl) gv
  rw [skip_skip] at c3 gv
  obtain ⟨-, -, -, -, w5, -, -, -⟩ := hB.fq gv.1
  refine ⟨10, w5, k_qWord hB st_ma (by decide) gv (fun c u gu _ _ => br_f (by decide) ?_) (fun c4 u gu _ => br_t rfl ?_)⟩
  · rw [skip_skip] at c gu
    exact p1 5 _ u (Or.inr (Or.inr (Or.inr rfl))) (by rw [if_neg c1, if_neg c2, if_neg c3, if_pos c]; rfl) gu
  rw [skip_skip] at c4 gu
  exact p0 (by rw [if_neg c1, if_neg c2, if_neg c3, if_neg c4]) u gu
theorem cll_snoc {it : QIt} : cll (Q.1 ++ [it], Q.2) = (cll Q || decide (0 < it.1)) := by
  unfold cll
  show (decide (0 < Q.2.1.length) || (Q.1 ++ [it]).any _) = _
  rw [List.any_append]
  show (_ || (_ || (_ || false))) = _
  rw [Bool.or_false, Bool.or_assoc]
/-- an item, with its place, and one more -/
theorem k_qItm (hB : BsC x q n F o) {post : St → Prop} (h : GdC True q T n F o x y (skip T n k) Q) (h7 : fI y o 7 = if cll Q = true then 1 else 0) (hl : Q.1.length < 16)
    (p : ∀ z, RqC True q T n F o x (qItm T n F k Q) z → ((qItm T n F k Q).1 = -1 → fI z o 7 = if cll (qItm T n F k Q).2.2 = true then 1 else 0) → post z) :
    wp_Qry_readItem (fun (x9 : St) => (∀ x10 : St, x10 = setI x9 o 1 ((fI x9 o 1) + 1) → post x10)) o (setA y (o + 3) (nI Q.1.length) (nI (skip T n k))) := by
  have t2 := hB.1
  have hF := hB.2.2.1.1
  obtain ⟨-, hL, hw, hR, t5, t6, t7, t8⟩ := hB.fq h.1
  obtain ⟨s1, s2, -⟩ := stq t7
  have ho : o ≠ 10 := by rcases t7 with e | e <;> omega
  have hq : ∀ j, 1 ≤ j → j ≤ 10 → q ≠ o + j := fun j a b e => by rcases t7 with w | w <;> omega
  have cl : (nI Q.1.length).toNatClampNeg = Q.1.length := nI_clamp (by omega)
  have sl := h.2.1.2.2.2
  obtain ⟨a1, a2, ⟨b1, b2, b3, b4⟩, a8⟩ := h
  have ne : ¬ nI (skip T n k) = -1 := nI_nm1 (by omega)
  generalize hy : setA y (o + 3) (nI Q.1.length) (nI (skip T n k)) = Y
  have fY : FqC True o y Y := by rw [← hy]; exact Fg.a (Or.inr ⟨trivial, by omega, by omega⟩)
  have Y3 : fA Y (o + 3) = upd (fA y (o + 3)) Q.1.length (nI (skip T n k)) := by rw [← hy, gA_at, cl]
  have YA : ∀ a, a ≠ o + 3 → fA Y a = fA y a := fun a c => by rw [← hy, gA_ne c]
  have YI : Y.1 = y.1 := by rw [← hy]; rfl
  have YL : Y.2.2.2.2.1 = y.2.2.2.2.1 := by rw [← hy]; rfl
  have gY : GdC False q T n F o Y Y (skip T n k) Q := by
    refine ⟨Fg.refl Y, by rw [← hy]; exact a2.aa (hq 3 (by decide) (by decide)), ⟨⟨?_, b1.2.1, fun i hi => ?_⟩, ?_, ?_, ?_⟩, a8⟩
    · show Y.1 o 1 = _; rw [YI]; exact b1.1
    · rw [YA _ (by omega), YA _ (by omega), Y3, upd_ne (by omega)]
      exact b1.2.2 i hi
    · show CqB (Y.1 o 5) _ _; rw [YI, YA _ (by omega)]; exact b2
    · show CqS F (Y.1 o 8) _ _ _ _ _; rw [YI, YA _ (by omega), YA _ (by omega), YA _ (by omega), YA _ (by omega)]; exact b3
    · show CqL (Y.1 o 13) (Y.1 o 15) (Y.2.2.2.2.1 (o + 9)) _ _; rw [YI, YL, YA _ (by omega)]; exact b4
  clear hy
  have hBY : BsC Y q n F o := (hB.fq a1).fq fY
  have Y7 : fI Y o 7 = if cll Q = true then 1 else 0 := by show Y.1 o 7 = _; rw [YI]; exact h7
  have Y1 : fI Y o 1 = nI Q.1.length := gY.2.2.1.1.1
  -- it is kept
  have m110 : ∀ (r : QR) (w f : Int32) (Y' z : St) (c7 : Bool), FqC True o Y Y' → (∀ k, k = 1 ∨ k = 5 → fI Y' o k = fI Y o k) → (∀ a, o + 1 ≤ a → a ≤ o + 4 → fA Y' a = fA Y a) → RqC False q T n F o Y' r z → (r.1 = -1 → r.2.2 = Q ∧ (c7 = false → fI z o 7 = fI Y o 7 ∧ w = 0) ∧ (c7 = true → fI z o 7 = 1 ∧ 0 < w)) → (r.1 = -1 → qItm T n F k Q = qIt (skip T n k) w f r) → (¬ r.1 = -1 → (qItm T n F k Q).1 = r.1) → j_Qry_readItem_110 (fun (x9 : St) => (∀ x10 : St, x10 = setI x9 o 1 ((fI x9 o 1) + 1) → post x10)) o w f z := by
    intro r w f Y' z c7 hT hI hA hz hg he1 he2
    have zI : ∀ k, k = 1 ∨ k = 5 → fI z o k = fI Y o k := by
      intro k c1
      rw [← hI k c1]
      exact hz.fq.1 o k (fun e => by
        rcases e with e | ⟨-, e | e | e | e | ⟨e, -⟩⟩
        · exact ho e
        · omega
        · omega
        · omega
        · omega
        · exact e)
    have zfT : FqC True o Y z := hT.trans (FqC.up hz.fq False.elim)
    have zA : ∀ a, o + 1 ≤ a → a ≤ o + 4 → fA z a = fA Y a := by
      intro a c1 c2
      rw [← hA a c1 c2]
      exact hz.fq.2.2.2.1 a (fun e => by
        rcases e with e | ⟨e, -⟩
        · omega
        · exact e)
    have zs : ∃ j, ScC z q T n j r.1 := hz.sc
    have z1 : fI z o 1 = nI Q.1.length := (zI 1 (Or.inl rfl)).trans Y1
    obtain ⟨-, zL, -⟩ := hBY.fq zfT
    obtain ⟨l1, l2, l3, -⟩ := t7.len zL
    unfold j_Qry_readItem_110
    rw [s1, s2, z1, l1]
    refine ⟨vp_in_nI hl (by decide), nm_e ?_⟩
    show vp_in (fI z o 1) (fN z (o + 2)) ∧ _
    rw [z1, l2]
    refine ⟨vp_in_nI hl (by decide), nm_r (e' := setA (setA z (o + 1) (nI Q.1.length) w) (o + 2) (nI Q.1.length) f) (by show setA _ (o + 2) (fI z o 1) f = _; rw [z1]) (nm_r (e' := setI (setA (setA z (o + 1) (nI Q.1.length) w) (o + 2) (nI Q.1.length) f) o 1 (nI (Q.1.length + 1))) (by show setI _ o 1 (fI z o 1 + 1) = _; rw [z1, nI_1]) ?_)⟩
    generalize hW : setI (setA (setA z (o + 1) (nI Q.1.length) w) (o + 2) (nI Q.1.length) f) o 1 (nI (Q.1.length + 1)) = W
    have fW : FqC True o z W := by rw [← hW]; exact ((Fg.a (Or.inr ⟨trivial, by omega, by omega⟩)).trans (Fg.a (Or.inr ⟨trivial, by omega, by omega⟩))).trans (Fg.i (Or.inr ⟨rfl, Or.inr (Or.inr (Or.inr (Or.inr ⟨trivial, Or.inl rfl⟩)))⟩))
    have W1 : fI W o 1 = nI (Q.1.length + 1) := by rw [← hW]; exact gI_at
    have WI : ∀ k, k ≠ 1 → fI W o k = fI z o k := fun k c => by rw [← hW, gI_ne c]; rfl
    have Wr1 : fA W (o + 1) = upd (fA z (o + 1)) Q.1.length w := by
      rw [← hW]
      show fA (setA (setA z _ _ _) _ _ _) (o + 1) = _
      rw [gA_ne (by omega), gA_at, cl]
    have Wr2 : fA W (o + 2) = upd (fA z (o + 2)) Q.1.length f := by
      rw [← hW]
      show fA (setA (setA z _ _ _) _ _ _) (o + 2) = _
      rw [gA_at, gA_ne (by omega), cl]
    have WA : ∀ a, a ≠ o + 1 → a ≠ o + 2 → fA W a = fA z a := fun a c1 c2 => by
      rw [← hW]
      show fA (setA (setA z _ _ _) _ _ _) a = _
      rw [gA_ne c2, gA_ne c1]
    have WL : W.2.2.2.2.1 = z.2.2.2.2.1 := by rw [← hW]; rfl
    have Ws : ∀ j e, ScC z q T n j e → ScC W q T n j e := fun j e hs => by
      rw [← hW]
      exact ((hs.aa (hq 1 (by decide) (by decide))).aa (hq 2 (by decide) (by decide))).o19 ho
    clear hW
    by_cases c : r.1 = -1
    · obtain ⟨er, hf, ht⟩ := hg c
      have e1 := he1 c
      unfold qIt at e1
      rw [if_pos c, er] at e1
      rw [e1] at p
      have gs : ScC z q T n r.2.1 (-1) ∧ CqS F (fI z o 8) (fA z (o + 5)) (fA z (o + 6)) (fA z (o + 7)) (fA z (o + 8)) Q.2.2.1 ∧ CqL (fI z o 13) (fI z o 15) (fL z (o + 9)) (fA z (o + 10)) Q.2.2.2 ∧ (ltB Q.2.2.2).length ≤ r.2.1 := by
        have g := hz.gd c
        rw [er] at g
        exact ⟨g.2.1, g.2.2.1.2.2.1, g.2.2.1.2.2.2, g.2.2.2⟩
      refine p W (RqC.good ⟨((a1.trans fY).trans zfT).trans fW, Ws _ _ gs.1, ⟨?_, ?_, ?_, ?_⟩, gs.2.2.2⟩) (fun _ => ?_)
      · rw [W1]
        refine b1.add (l := (w, f, skip T n k)) hl ?_ ?_ ?_
        · rw [Wr1, zA _ (by omega) (by omega), YA _ (by omega)]
        · rw [Wr2, zA _ (by omega) (by omega), YA _ (by omega)]
        · rw [WA _ (by omega) (by omega), zA _ (by omega) (by omega), Y3]
      · rw [WI 5 (by decide), zI 5 (Or.inr rfl), WA _ (by omega) (by omega), zA _ (by omega) (by omega)]
        exact gY.2.2.1.2.1
      · rw [WI 8 (by decide), WA _ (by omega) (by omega), WA _ (by omega) (by omega), WA _ (by omega) (by omega), WA _ (by omega) (by omega)]
        exact gs.2.1
      · rw [WI 13 (by decide), WI 15 (by decide), WA _ (by omega) (by omega)]
        show CqL _ _ (W.2.2.2.2.1 (o + 9)) _ _
        rw [WL]
        exact gs.2.2.1
      · show fI W o 7 = if cll (Q.1 ++ [(w, f, skip T n k)], Q.2) = true then 1 else 0
        rw [cll_snoc, WI 7 (by decide)]
        cases c7 with
        | false =>
          obtain ⟨e2, e3⟩ := hf rfl
          rw [e2, Y7, e3]
          show _ = if (cll Q || false) = true then 1 else 0
          rw [Bool.or_false]
        | true =>
          obtain ⟨e2, e3⟩ := ht rfl
          rw [e2]
          show _ = if (cll Q || decide (0 < w)) = true then 1 else 0
          rw [decide_eq_true e3, Bool.or_true, if_pos rfl]
    · have e2 := he2 c
      obtain ⟨j, hs⟩ := zs
      have nq : ¬ (qItm T n F k Q).1 = -1 := by rw [e2]; exact c
      have ff : FfC True q T n o x W (qItm T n F k Q).1 := ⟨((a1.trans fY).trans zfT).trans fW, j, by rw [e2]; exact Ws _ _ hs⟩
      refine p W ?_ (fun e => absurd e nq)
      unfold RqC
      rw [if_neg nq]
      exact ff
  have hne : ¬ Q.1.length = 16 := by omega
  have efm : qFm T n (skip T n k) = qFm T n k := by unfold qFm; rw [skip_skip]
  have epa : qPa T n F (skip T n k) = qPa T n F k := by unfold qPa; rw [skip_skip]
  unfold wp_Qry_readItem
  refine k_qFm hBY gY (fun e z gz => bn_t rfl ?_) (fun w k2 z hw e gz => bn_f ?_ ?_)
  · -- a path
    rw [efm, skip_skip] at e
    rw [skip_skip] at gz
    have e7 : ∀ u, FqC False o Y u → fI u o 7 = fI Y o 7 := fun u f => f.1 o 7 (fun w => by
      rcases w with w | ⟨-, w | w | w | w | ⟨w, -⟩⟩
      · exact ho w
      · omega
      · omega
      · omega
      · omega
      · exact w)
    refine k_qPath hBY gz (fun c1 c2 u gu _ => ?_) (fun c1 c2 u hu => ?_) (fun c1 u hu => ?_)
    · rw [epa] at c1 c2 gu ⊢
      refine m110 (-1, (qPa T n F k).2.1, Q) 0 _ Y u false (Fg.refl Y) (fun _ _ => rfl) (fun _ _ _ => rfl) (RqC.good gu) (fun _ => ⟨rfl, fun _ => ⟨e7 u gu.1, rfl⟩, fun w => absurd w (by decide)⟩) (fun _ => ?_) (fun w => absurd rfl w)
      unfold qItm
      rw [if_neg hne, e, if_pos rfl, if_neg (fun w => w c1), if_neg c2]
    · rw [epa] at c1 c2
      rw [skip_skip] at hu
      have eq : (qItm T n F k Q).1 = nI (skip T n k) := by
        unfold qItm
        rw [if_neg hne, e, if_pos rfl, if_neg (fun w => w c1), if_pos c2]
      exact m110 (nI (skip T n k), 0, Q) 0 (-1) Y u false (Fg.refl Y) (fun _ _ => rfl) (fun _ _ _ => rfl) (hu.rs ne) (fun w => absurd w ne) (fun w => absurd w ne) (fun _ => eq)
    · rw [epa] at c1 hu
      have eq : (qItm T n F k Q).1 = (qPa T n F k).1 := by
        unfold qItm
        rw [if_neg hne, e, if_pos rfl, if_pos c1]
      exact m110 ((qPa T n F k).1, 0, Q) 0 (-1) Y u false (Fg.refl Y) (fun _ _ => rfl) (fun _ _ _ => rfl) (hu.rs c1) (fun w => absurd w c1) (fun w => absurd w c1) (fun _ => eq)
  · rcases hw with e | e | e | e <;> subst e <;> decide
  · -- one that collects
    rw [efm] at e
    have fZ : FqC True o Y (setI z o 7 1) := (FqC.up gz.1 False.elim).trans (Fg.i (Or.inr ⟨rfl, Or.inr (Or.inr (Or.inr (Or.inr ⟨trivial, Or.inr (Or.inr rfl)⟩)))⟩))
    have gZ : GdC False q T n F o (setI z o 7 1) (setI z o 7 1) k2 Q := by
      obtain ⟨c1, c2, ⟨d1, d2, d3, d4⟩, c8⟩ := gz
      refine ⟨Fg.refl _, c2.o19 ho, ⟨?_, ?_, ?_, ?_⟩, c8⟩
      · rw [gI_ne (by decide)]; exact d1
      · rw [gI_ne (by decide)]; exact d2
      · rw [gI_ne (by decide)]; exact d3
      · rw [gI_ne (by decide), gI_ne (by decide)]; exact d4
    have hIZ : ∀ k, k = 1 ∨ k = 5 → fI (setI z o 7 1) o k = fI Y o k := by
      intro k c1
      rw [gI_ne (by omega)]
      exact gz.1.1 o k (fun e => by
        rcases e with e | ⟨-, e | e | e | e | ⟨e, -⟩⟩
        · exact ho e
        · omega
        · omega
        · omega
        · omega
        · exact e)
    have hAZ : ∀ a, o + 1 ≤ a → a ≤ o + 4 → fA (setI z o 7 1) a = fA Y a := by
      intro a c1 c2
      exact gz.1.2.2.2.1 a (fun e => by
        rcases e with e | ⟨e, -⟩
        · omega
        · exact e)
    have Z7 : fI (setI z o 7 1) o 7 = 1 := gI_at
    have hBZ : BsC (setI z o 7 1) q n F o := hBY.fq fZ
    refine nm_e ?_
    clear gz
    generalize setI z o 7 1 = Z at *
    have e7 : ∀ u, FqC False o Z u → fI u o 7 = 1 := fun u f => (f.1 o 7 (fun w => by
      rcases w with w | ⟨-, w | w | w | w | ⟨w, -⟩⟩
      · exact ho w
      · omega
      · omega
      · omega
      · omega
      · exact w)).trans Z7
    have sg2 := skip_ge T n k2
    -- in brackets; k3: before or behind blanks
    have m46 : ∀ (v : Int32) (k3 : Nat) (u : St), (v = 2 ∨ v = 3 ∨ v = 4 ∨ v = 5) → skip T n k3 = skip T n k2 → GdC False q T n F o Z u k3 Q → qItm T n F k Q = qAgg T n F (skip T n k) v (skip T n k2) Q → j_Qry_readItem_46 (fun (x9 : St) => (∀ x10 : St, x10 = setI x9 o 1 ((fI x9 o 1) + 1) → post x10)) o v (-1) u := by
      intro v k3 u hv ek gu eq
      have v0 : 0 < v := by rcases hv with e | e | e | e <;> subst e <;> decide
      obtain ⟨-, -, -, -, u5, u6, -, -⟩ := hBZ.fq gu.1
      have hk3 := gu.2.1.2.2.2
      unfold qAgg at eq
      have es : qSgn T n 40 (-1, skip T n k2, Q) = qSgn T n 40 (-1, k3, Q) := by
        unfold qSgn
        show (if _ then _ else if skip T n (skip T n k2) < n ∧ T (skip T n (skip T n k2)) = 40 then (-1, skip T n (skip T n k2) + 1, Q) else (nI (skip T n (skip T n k2)), skip T n (skip T n k2), Q)) = (if _ then _ else if skip T n k3 < n ∧ T (skip T n k3) = 40 then (-1, skip T n k3 + 1, Q) else (nI (skip T n k3), skip T n k3, Q))
        rw [skip_skip, ek]
        rfl
      rw [es] at eq
      unfold j_Qry_readItem_46
      refine ⟨10, u5, k_qNeedS hBZ (by decide) (RqC.good gu) (fun a ha _ => ?_)⟩
      have m101F : ∀ (e : Int32) (f : Int32) (c : St), ¬ e = -1 → FfC False q T n o Z c e → (qItm T n F k Q).1 = e → j_Qry_readItem_101 (fun (x9 : St) => (∀ x10 : St, x10 = setI x9 o 1 ((fI x9 o 1) + 1) → post x10)) o v f c := by
        intro e f c he hc eqe
        obtain ⟨-, -, -, -, w5, -, -, -⟩ := hBZ.fq hc.1
        unfold j_Qry_readItem_101
        have hc2 : RqC False q T n F o Z (e, 0, Q) c := hc.rs he
        refine ⟨10, w5, k_qNeedS hBZ (by decide) hc2 (fun d hd _ => ?_)⟩
        rw [qSgn_b he] at hd
        exact m110 (e, 0, Q) v f Z d true fZ hIZ hAZ hd (fun w => absurd w he) (fun w => absurd w he) (fun _ => eqe)
      by_cases c1 : (qSgn T n 40 (-1, k3, Q)).1 = -1
      · rw [qBd_g c1] at eq
        obtain ⟨-, e1, k4⟩ := qSgn_q c1 (by omega) (show k3 ≤ n from hk3)
        rw [e1] at eq ha
        have ga : GdC False q T n F o Z a (skip T n k3 + 1) Q := ha.gd rfl
        have k4 : skip T n k3 < n := k4
        generalize skip T n k3 + 1 = k5 at *
        have eq : qItm T n F k Q = (if ¬ (qCol T n F k5).1 = -1 then ((qCol T n F k5).1, (qCol T n F k5).2.1, Q) else if v = 3 ∧ ¬ whl (fTy F (qCol T n F k5).2.2) then (nI (skip T n k5), (qCol T n F k5).2.1, Q) else qIt (skip T n k) v (nI (qCol T n F k5).2.2) (qSgn T n 41 (-1, (qCol T n F k5).2.1, Q))) := eq
        have hk5 := ga.2.1.2.2.2
        have sl5 := @skip_le T n k5 hk5
        have ne5 : ¬ nI (skip T n k5) = -1 := nI_nm1 (by omega)
        refine k_qCol hBZ ga (fun c2 c gc c19 => ?_) (fun c2 vv c hc => ?_)
        · rw [if_neg (fun w => w c2)] at eq
          obtain ⟨f1, -⟩ := qCol_f hB.2.2.1 (by omega) hk5 c2
          generalize (qCol T n F k5).2.2 = f at *
          generalize (qCol T n F k5).2.1 = k6 at *
          obtain ⟨-, -, -, -, w5, w6, -, -⟩ := hBZ.fq gc.1
          have ok : ¬ (v = 3 ∧ ¬ whl (fTy F f)) → j_Qry_readItem_101 (fun (x9 : St) => (∀ x10 : St, x10 = setI x9 o 1 ((fI x9 o 1) + 1) → post x10)) o v (nI f) c := by
            intro d
            rw [if_neg d] at eq
            unfold j_Qry_readItem_101
            refine ⟨10, w5, k_qNeedS hBZ (by decide) (RqC.good gc) (fun d2 hd2 _ => ?_)⟩
            refine m110 (qSgn T n 41 (-1, k6, Q)) v (nI f) Z d2 true fZ hIZ hAZ hd2 (fun c3 => ⟨?_, fun w => absurd w (by decide), fun _ => ⟨e7 d2 hd2.fq, v0⟩⟩) (fun _ => eq) (fun c3 => ?_)
            · obtain ⟨-, e8, -⟩ := qSgn_q c3 (by omega) (show k6 ≤ n from gc.2.1.2.2.2)
              rw [e8]
            · rw [eq]
              unfold qIt
              rw [if_neg c3]
          by_cases d1 : v = 3
          · obtain ⟨q1, q2, -⟩ := hBZ.ty gc.1 f1
            refine bn_t d1 ⟨10, w5, k_qGood (RqC.good gc) (fun _ => br_f (by decide) ⟨70, w6, q1, ?_⟩) (fun w => absurd rfl w)⟩
            rw [q2]
            refine k_whl ?_
            by_cases d2 : whl (fTy F f)
            · rw [if_pos d2]; exact bn_f (by decide) (ok (fun w => w.2 d2))
            · rw [if_neg d2]
              rw [if_pos ⟨d1, d2⟩] at eq
              refine bn_t rfl ⟨10, w5, ?_⟩
              rw [c19]
              exact k_qRef hBZ (by omega) (RqC.good gc) (fun d3 hd3 => m101F _ _ d3 ne5 (hd3.ft ne5) (by rw [eq]))
          · exact bn_f d1 (ok (fun w => d1 w.1))
        · rw [if_pos c2] at eq
          obtain ⟨-, -, -, -, w5, -, -, -⟩ := hBZ.fq hc.1
          have mm := m101F _ vv c c2 hc (by rw [eq])
          exact ⟨fun _ => mm, fun _ => ⟨10, w5, k_qGood (r := ((qCol T n F k5).1, 0, Q)) (F := F) (hc.rs c2) (fun w => absurd w c2) (fun _ => br_t rfl mm)⟩⟩
      · rw [qBd_b c1] at eq
        refine k_qColF hBZ c1 (ha.ft c1) ?_
        obtain ⟨-, -, -, -, w5, -, -, -⟩ := hBZ.fq ha.fq
        have mm := m101F _ (-1) a c1 (ha.ft c1) (by rw [eq])
        exact ⟨fun _ => mm, fun _ => ⟨10, w5, k_qGood ha (fun w => absurd w c1) (fun _ => br_t rfl mm)⟩⟩
    have ei : qItm T n F k Q = (if w = 1 ∧ ¬ (skip T n k2 < n ∧ T (skip T n k2) = 40) then qIt (skip T n k) 1 (-1) (-1, skip T n k2, Q) else qAgg T n F (skip T n k) (if w = 1 then 2 else w) (skip T n k2) Q) := by
      unfold qItm
      rw [if_neg hne, e, if_neg (show ¬ w = 0 from by rcases hw with e | e | e | e <;> rw [e] <;> decide)]
    by_cases c1 : w = 1
    · rw [if_pos c1]
      obtain ⟨-, -, -, -, v5, -, -, -⟩ := hBZ
      refine bn_t rfl ⟨10, v5, k_qNext (hBY.fq fZ) gZ (fun u gu _ => ?_)⟩
      by_cases c2 : skip T n k2 < n ∧ T (skip T n k2) = 40
      · rw [if_neg (fun w => w.2 c2), if_pos c1] at ei
        rw [if_pos c2.1]
        exact br_t c2.2 (m46 2 (skip T n k2) u (Or.inl rfl) (skip_skip _ _ _) gu ei)
      · rw [if_pos ⟨c1, c2⟩] at ei
        refine br_f (fun e => c2 ?_) (m110 (-1, skip T n k2, Q) 1 (-1) Z u true fZ hIZ hAZ (RqC.good gu) (fun _ => ⟨rfl, fun w => absurd w (by decide), fun _ => ⟨e7 u gu.1, by decide⟩⟩) (fun _ => ei) (fun w => absurd rfl w))
        by_cases c3 : skip T n k2 < n
        · rw [if_pos c3] at e; exact ⟨c3, e⟩
        · rw [if_neg c3] at e; exact absurd e (by decide)
    · rw [if_neg c1]
      rw [if_neg (fun w => c1 w.1), if_neg c1] at ei
      refine bn_f (by rcases hw with e | e | e | e <;> rw [e] at c1 ⊢ <;> first | exact absurd rfl c1 | decide) (m46 w k2 Z (by rcases hw with e | e | e | e <;> rw [e] at c1 ⊢ <;> first | exact absurd rfl c1 | exact Or.inr (Or.inl rfl) | exact Or.inr (Or.inr (Or.inl rfl)) | exact Or.inr (Or.inr (Or.inr rfl))) rfl gZ ei)
end
