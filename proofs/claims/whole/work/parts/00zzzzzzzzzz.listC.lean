/-! items and paths of a query, class: the loops -/
section
variable {q n o : Nat} {T : Nat → Int32} {F : List SFd} {x : St}
theorem k_qItsL (hB : BsC x q n F o) {post : St → Prop} : ∀ d k Q y, 17 ≤ Q.1.length + d → GdC True q T n F o x y k Q → (fI y o 7 = if cll Q = true then 1 else 0) → (∀ z, RqC True q T n F o x (qIts T n F d k Q) z → ((qIts T n F d k Q).1 = -1 → fI z o 7 = if cll (qIts T n F d k Q).2.2 = true then 1 else 0) → post z) → wl_Qry_readItems_10 post (d + 1) o 1 (nI Q.1.length) y := by
  have t2 := hB.1
  have hw := hB.2.2.1
  intro d
  induction d with
  | zero =>
    intro k Q y hd h
    have := h.2.2.1.1.2.1
    omega
  | succ d ih =>
    intro k Q y hd h h7 pp
    obtain ⟨-, hL, -, -, t5, -, t7, -⟩ := hB.fq h.1
    obtain ⟨-, -, s3, -⟩ := stq t7
    have ho : o ≠ 10 := by rcases t7 with e | e <;> omega
    have l16 := h.2.2.1.1.2.1
    have hk := h.2.1.2.2.2
    rw [qIts_eq] at pp
    show j_Qry_readItems_10 post (wl_Qry_readItems_10 post (d + 1)) o 1 (nI Q.1.length) y
    unfold j_Qry_readItems_10
    refine br_f (by show ¬ nI 16 < _; (first | omega | (simp (disch := omega) only [Int32.le_iff_toInt_le, Int32.lt_iff_toInt_lt, z_eq, z_in, nI_toInt, z_cl, z_m1, z_sg, z_255, Int32.reduceToInt] <;> omega) | (simp only [Int32.le_iff_toInt_le, Int32.lt_iff_toInt_lt, z_eq, z_in, z_add, z_sub, z_mul, z_neg, z_nI, z_cl, z_sg, z_255, z_lit, Int32.reduceToInt] <;> omega))) (br_f (by decide) ⟨10, t5, k_qNext hB h (fun z hz f => ?_)⟩)
    obtain ⟨-, zL, -, -, u5, -, -, -⟩ := hB.fq hz.1
    obtain ⟨-, -, l3, -⟩ := t7.len zL
    have sl := hz.2.1.2.2.2
    have z7 : fI z o 7 = if cll Q = true then 1 else 0 := (f.1 o 7 ho).trans h7
    rw [hz.2.2.1.1.1]
    by_cases c : Q.1.length < 16
    · refine br_t (by (first | omega | (simp (disch := omega) only [Int32.le_iff_toInt_le, Int32.lt_iff_toInt_lt, z_eq, z_in, nI_toInt, z_cl, z_m1, z_sg, z_255, Int32.reduceToInt] <;> omega) | (simp only [Int32.le_iff_toInt_le, Int32.lt_iff_toInt_lt, z_eq, z_in, z_add, z_sub, z_mul, z_neg, z_nI, z_cl, z_sg, z_255, z_lit, Int32.reduceToInt] <;> omega))) ⟨10, u5, ?_⟩
      rw [s3, l3, hz.2.1.2.1]
      refine ⟨vp_in_nI c (by decide), nm_e (k_qItm hB hz z7 c (fun w hw2 w7 => ?_))⟩
      obtain ⟨-, -, -, -, v5, -, -, -⟩ := hB.fq hw2.fq
      unfold j_Qry_readItems_108 j_Qry_readItems_109
      have ex : ∀ (u : St) (l2 : Int32), post u → wl_Qry_readItems_10 post (d + 1) o 0 l2 u := by
        intro u l2 pu
        show j_Qry_readItems_10 post _ o 0 l2 u
        unfold j_Qry_readItems_10
        exact ⟨fun _ => pu, fun _ => br_t rfl pu⟩
      refine ⟨10, v5, k_qGood hw2 (fun c2 => br_f (by decide) ⟨10, v5, ?_⟩) (fun c2 => br_t rfl (ex w _ (pp w ?_ (fun e => ?_))))⟩
      · have g := hw2.gd c2
        rw [qBd_g c2] at pp
        obtain ⟨k', it, e, -, k1, k2⟩ := qItm_w hw (by omega) hk c2
        rw [e] at pp g w7
        have g : GdC True q T n F o x w k' (Q.1 ++ [it], Q.2) := g
        have w7 : fI w o 7 = if cll (Q.1 ++ [it], Q.2) = true then 1 else 0 := w7 rfl
        have pp : ∀ z, RqC True q T n F o x (qItT T n F d k' (Q.1 ++ [it], Q.2)) z → ((qItT T n F d k' (Q.1 ++ [it], Q.2)).1 = -1 → fI z o 7 = if cll (qItT T n F d k' (Q.1 ++ [it], Q.2)).2.2 = true then 1 else 0) → post z := pp
        unfold qItT at pp
        refine k_qSign hB (by decide) g (fun a1 a2 u gu fu => br_f (by decide) ?_) (fun a u gu fu => br_t rfl ?_)
        · rw [if_pos ⟨a1, a2⟩] at pp
          have := ih (skip T n k' + 1) (Q.1 ++ [it], Q.2) u (by show 17 ≤ (Q.1 ++ [it]).length + d; rw [List.length_append]; show 17 ≤ Q.1.length + 1 + d; omega) gu ((fu.1 o 7 ho).trans w7) pp
          have this : wl_Qry_readItems_10 post (d + 1) o 1 (nI (Q.1 ++ [it]).length) u := this
          rw [List.length_append] at this
          rw [nI_1]
          exact this
        · rw [if_neg a] at pp
          exact ex u _ (pp u (RqC.good gu) (fun _ => (fu.1 o 7 ho).trans w7))
      · rw [qBd_b c2]; exact hw2
      · rw [qBd_b c2] at e; exact absurd e c2
    · have e16 : Q.1.length = 16 := by omega
      have ne : ¬ nI (skip T n k) = -1 := nI_nm1 (by omega)
      have eq : qItm T n F k Q = (nI (skip T n k), skip T n k, Q) := by unfold qItm; rw [if_pos e16]
      rw [eq] at pp
      rw [qBd_b (show ¬ (nI (skip T n k), skip T n k, Q).1 = -1 from ne)] at pp
      refine br_f (by rw [e16]; decide) ⟨10, u5, 10, u5, ?_⟩
      rw [hz.2.1.2.1]
      exact k_qRef hB (by omega) (RqC.good hz) (fun w hw2 => pp w ((hw2.ft ne).rs ne) (fun e => absurd e ne))
theorem k_isBy (hL : LC x) (ho : QId o) {B : List Nat} {v : Int32} {post : Int32 → St → Prop} (hB : CqB (fI x o 5) (fA x (o + 4)) B) (p : post (if byB B v = true then 1 else 0) x) : wp_Qry_isBy post o v x := by
  obtain ⟨-, -, -, s6, -⟩ := stq ho
  obtain ⟨-, -, -, l4, -⟩ := ho.len hL
  obtain ⟨b1, b2, b3⟩ := hB
  unfold wp_Qry_isBy
  refine lp_Qry_isBy_2 (fun o' a1 a2 z => o = o' ∧ v = a1 ∧ x = z ∧ ∃ i, i ≤ B.length ∧ nI i = a2 ∧ byB (B.take i) v = false) (fun _ _ a2 _ => B.length - a2.toNatClampNeg) ?_ _ _ _ _ ⟨rfl, rfl, rfl, 0, Nat.zero_le _, rfl, rfl⟩
  rintro R o' a1 a2 z ⟨rfl, rfl, rfl, i, hi, rfl, hb⟩ ih
  unfold j_Qry_isBy_2
  rw [b1, s6, l4]
  by_cases c : i < B.length
  · have e1 : B.take (i + 1) = B.take i ++ [B.getD i 0] := by
      rw [List.take_succ, List.getD_eq_getElem?_getD, List.getElem?_eq_getElem c]
      rfl
    have e2 : byB (B.take (i + 1)) v = (byB (B.take i) v || decide (nI (B.getD i 0) = v)) := by
      unfold byB
      rw [e1, List.any_append]
      show (_ || (_ || false)) = _
      rw [Bool.or_false]
    refine br_f (by (first | omega | (simp (disch := omega) only [Int32.le_iff_toInt_le, Int32.lt_iff_toInt_lt, z_eq, z_in, nI_toInt, z_cl, z_m1, z_sg, z_255, Int32.reduceToInt] <;> omega) | (simp only [Int32.le_iff_toInt_le, Int32.lt_iff_toInt_lt, z_eq, z_in, z_add, z_sub, z_mul, z_neg, z_nI, z_cl, z_sg, z_255, z_lit, Int32.reduceToInt] <;> omega))) ?_
    rw [rA_nI (by omega), b3 i c]
    refine ⟨vp_in_nI (by omega) (by decide), ?_⟩
    by_cases d : nI (B.getD i 0) = v
    · have : byB B v = true := by
        unfold byB
        refine List.any_eq_true.mpr ⟨B.getD i 0, ?_, decide_eq_true d⟩
        rw [List.getD_eq_getElem?_getD, List.getElem?_eq_getElem c]
        exact List.getElem_mem c
      rw [if_pos this] at p
      exact bn_t d p
    · refine bn_f d ?_
      rw [nI_1]
      refine ih _ _ _ _ ⟨rfl, rfl, rfl, i + 1, c, rfl, by rw [e2, hb, decide_eq_false d]; rfl⟩ ?_
      rw [nI_clamp (by omega), nI_clamp (by omega)]
      omega
  · have e : i = B.length := by omega
    rw [e, List.take_length] at hb
    rw [if_neg (by rw [hb]; decide)] at p
    exact br_t (by (first | omega | (simp (disch := omega) only [Int32.le_iff_toInt_le, Int32.lt_iff_toInt_lt, z_eq, z_in, nI_toInt, z_cl, z_m1, z_sg, z_255, Int32.reduceToInt] <;> omega) | (simp only [Int32.le_iff_toInt_le, Int32.lt_iff_toInt_lt, z_eq, z_in, z_add, z_sub, z_mul, z_neg, z_nI, z_cl, z_sg, z_255, z_lit, Int32.reduceToInt] <;> omega))) p
theorem k_qBysL (hB : BsC x q n F o) {post : St → Prop} : ∀ d k Q y, 9 ≤ Q.2.1.length + d → GdC True q T n F o x y k Q → fI y o 7 = 1 → (∀ z, RqC True q T n F o x (qBys T n F d k Q) z → fI z o 7 = 1 → post z) → wl_Qry_readBys_15 post (d + 1) o 1 (nI Q.2.1.length) y := by
  have t2 := hB.1
  have hw := hB.2.2.1
  intro d
  induction d with
  | zero =>
    intro k Q y hd h
    have := h.2.2.1.2.1.2.1
    omega
  | succ d ih =>
    intro k Q y hd h h7 pp
    obtain ⟨-, hL, -, -, t5, -, t7, t8⟩ := hB.fq h.1
    obtain ⟨-, -, -, s6, -⟩ := stq t7
    have ho : o ≠ 10 := by rcases t7 with e | e <;> omega
    have hq : q ≠ o + 4 := by rcases t7 with e | e <;> omega
    have l8 := h.2.2.1.2.1.2.1
    have hk := h.2.1.2.2.2
    rw [qBys_eq] at pp
    show j_Qry_readBys_15 post (wl_Qry_readBys_15 post (d + 1)) o 1 (nI Q.2.1.length) y
    unfold j_Qry_readBys_15
    refine br_f (by show ¬ nI 8 < _; (first | omega | (simp (disch := omega) only [Int32.le_iff_toInt_le, Int32.lt_iff_toInt_lt, z_eq, z_in, nI_toInt, z_cl, z_m1, z_sg, z_255, Int32.reduceToInt] <;> omega) | (simp only [Int32.le_iff_toInt_le, Int32.lt_iff_toInt_lt, z_eq, z_in, z_add, z_sub, z_mul, z_neg, z_nI, z_cl, z_sg, z_255, z_lit, Int32.reduceToInt] <;> omega))) (br_f (by decide) ⟨10, t5, k_qNext hB h (fun z hz f => ?_)⟩)
    obtain ⟨-, zL, -, -, u5, -, -, -⟩ := hB.fq hz.1
    have sl := hz.2.1.2.2.2
    have z7 : fI z o 7 = 1 := (f.1 o 7 ho).trans h7
    have ne : ¬ nI (skip T n k) = -1 := nI_nm1 (by omega)
    rw [hz.2.2.1.2.1.1]
    by_cases c : Q.2.1.length < 8
    · refine br_t (by (first | omega | (simp (disch := omega) only [Int32.le_iff_toInt_le, Int32.lt_iff_toInt_lt, z_eq, z_in, nI_toInt, z_cl, z_m1, z_sg, z_255, Int32.reduceToInt] <;> omega) | (simp only [Int32.le_iff_toInt_le, Int32.lt_iff_toInt_lt, z_eq, z_in, z_add, z_sub, z_mul, z_neg, z_nI, z_cl, z_sg, z_255, z_lit, Int32.reduceToInt] <;> omega))) ?_
      have hne : ¬ Q.2.1.length = 8 := by omega
      have hBz := hB.fq hz.1
      have ex : ∀ (u : St) (l2 : Int32), post u → wl_Qry_readBys_15 post (d + 1) o 0 l2 u := by
        intro u l2 pu
        show j_Qry_readBys_15 post _ o 0 l2 u
        unfold j_Qry_readBys_15
        exact ⟨fun _ => pu, fun _ => br_t rfl pu⟩
      -- it is kept, good or not
      have m91 : ∀ (r : QR) (fi : Int32) (u : St), RqC False q T n F o z r u → (r.1 = -1 → ∃ k' fl, r = (-1, k', Q) ∧ fi = nI fl ∧ qBy T n F k Q = (-1, k', (Q.1, Q.2.1 ++ [fl], Q.2.2))) → (¬ r.1 = -1 → (qBy T n F k Q).1 = r.1) → j_Qry_readBys_91 post (wl_Qry_readBys_15 post (d + 1)) o 1 (nI Q.2.1.length) fi u := by
        intro r fi u hu hg hb
        have uI : ∀ k, k = 1 ∨ k = 5 ∨ k = 7 → fI u o k = fI z o k := fun k c1 => hu.fq.1 o k (fun e => by
          rcases e with e | ⟨-, e | e | e | e | ⟨e, -⟩⟩
          · exact ho e
          · omega
          · omega
          · omega
          · omega
          · exact e)
        have uA : ∀ a, o + 1 ≤ a → a ≤ o + 4 → fA u a = fA z a := fun a c1 c2 => hu.fq.2.2.2.1 a (fun e => by
          rcases e with e | ⟨e, -⟩
          · omega
          · exact e)
        have u5b : fI u o 5 = nI Q.2.1.length := (uI 5 (Or.inr (Or.inl rfl))).trans hz.2.2.1.2.1.1
        obtain ⟨-, uL, -, -, v5, -, -, -⟩ := hBz.fq hu.fq
        obtain ⟨-, -, -, l4, -⟩ := t7.len uL
        have cl : (nI Q.2.1.length).toNatClampNeg = Q.2.1.length := nI_clamp (by omega)
        unfold j_Qry_readBys_91
        rw [s6, u5b, l4]
        refine ⟨vp_in_nI c (by decide), nm_e (nm_r (e' := setI (setA u (o + 4) (nI Q.2.1.length) fi) o 5 (nI (Q.2.1.length + 1))) (by show setI _ o 5 (fI u o 5 + 1) = _; rw [u5b, nI_1]) ⟨10, v5, ?_⟩)⟩
        generalize hW : setI (setA u (o + 4) (nI Q.2.1.length) fi) o 5 (nI (Q.2.1.length + 1)) = W
        have fW : FqC True o u W := by rw [← hW]; exact (Fg.a (Or.inr ⟨trivial, by omega, by omega⟩)).trans (Fg.i (Or.inr ⟨rfl, Or.inr (Or.inr (Or.inr (Or.inr ⟨trivial, Or.inr (Or.inl rfl)⟩)))⟩))
        have Ws : ∀ j e, ScC u q T n j e → ScC W q T n j e := fun j e hs => by rw [← hW]; exact (hs.aa hq).o19 ho
        have WI : ∀ k, k ≠ 5 → fI W o k = fI u o k := fun k c => by rw [← hW, gI_ne c]; rfl
        have W5 : fI W o 5 = nI (Q.2.1.length + 1) := by rw [← hW]; exact gI_at
        have W4 : fA W (o + 4) = upd (fA u (o + 4)) Q.2.1.length fi := by
          rw [← hW]
          show fA (setA u _ _ _) (o + 4) = _
          rw [gA_at, cl]
        have WA : ∀ a, a ≠ o + 4 → fA W a = fA u a := fun a c => by
          rw [← hW]
          show fA (setA u _ _ _) a = _
          rw [gA_ne c]
        have WL : W.2.2.2.2.1 = u.2.2.2.2.1 := by rw [← hW]; rfl
        clear hW
        have fT : FqC True o x W := (hz.1.trans (FqC.up hu.fq False.elim)).trans fW
        have W7 : fI W o 7 = 1 := (WI 7 (by decide)).trans ((uI 7 (Or.inr (Or.inr rfl))).trans z7)
        unfold j_Qry_readBys_137 j_Qry_readBys_138
        by_cases c2 : r.1 = -1
        · obtain ⟨k', fl, er, ef, eb⟩ := hg c2
          rw [eb, qBd_g rfl] at pp
          have gu := hu.gd c2
          rw [er] at gu
          obtain ⟨d1, d2, ⟨d3, d4, d5, d6⟩, d7⟩ := gu
          have d2 : ScC u q T n k' (-1) := d2
          have g : GdC True q T n F o x W k' (Q.1, Q.2.1 ++ [fl], Q.2.2) := by
            refine ⟨fT, Ws _ _ d2, ⟨?_, ?_, ?_, ?_⟩, d7⟩
            · rw [WI 1 (by decide), WA _ (by omega), WA _ (by omega), WA _ (by omega)]; exact d3
            · rw [W5]
              exact d4.add (l := fl) c (by rw [W4, ef])
            · rw [WI 8 (by decide), WA _ (by omega), WA _ (by omega), WA _ (by omega), WA _ (by omega)]; exact d5
            · rw [WI 13 (by decide), WI 15 (by decide), WA _ (by omega)]
              show CqL _ _ (W.2.2.2.2.1 (o + 9)) _ _
              rw [WL]; exact d6
          obtain ⟨-, -, -, -, w5, -, -, -⟩ := hB.fq g.1
          have pp : ∀ z, RqC True q T n F o x (qByT T n F d k' (Q.1, Q.2.1 ++ [fl], Q.2.2)) z → fI z o 7 = 1 → post z := pp
          unfold qByT at pp
          refine k_qGood (RqC.good g) (fun _ => br_f (by decide) ⟨10, w5, ?_⟩) (fun e => absurd rfl e)
          refine k_qSign hB (by decide) g (fun a1 a2 a ga fa => br_f (by decide) ?_) (fun a1 a ga fa => br_t rfl ?_)
          · rw [if_pos ⟨a1, a2⟩] at pp
            have := ih (skip T n k' + 1) (Q.1, Q.2.1 ++ [fl], Q.2.2) a (by show 9 ≤ (Q.2.1 ++ [fl]).length + d; rw [List.length_append]; show 9 ≤ Q.2.1.length + 1 + d; omega) ga ((fa.1 o 7 ho).trans W7) pp
            have this : wl_Qry_readBys_15 post (d + 1) o 1 (nI (Q.2.1 ++ [fl]).length) a := this
            rw [List.length_append] at this
            rw [nI_1]
            exact this
          · rw [if_neg a1] at pp
            exact ex a _ (pp a (RqC.good ga) ((fa.1 o 7 ho).trans W7))
        · have eb := hb c2
          have nb : ¬ (qBy T n F k Q).1 = -1 := by rw [eb]; exact c2
          rw [qBd_b nb] at pp
          obtain ⟨j, hs⟩ := hu.sc
          have ff : FfC True q T n o x W (qBy T n F k Q).1 := ⟨fT, j, by rw [eb]; exact Ws _ _ hs⟩
          have hW2 : RqC True q T n F o x (qBy T n F k Q) W := by unfold RqC; rw [if_neg nb]; exact ff
          exact k_qGood hW2 (fun e => absurd e nb) (fun _ => br_t rfl (ex W _ (pp W hW2 W7)))
      have eby : qBy T n F k Q = (if ¬ (qCol T n F k).1 = -1 then ((qCol T n F k).1, (qCol T n F k).2.1, Q) else if byB Q.2.1 (nI (qCol T n F k).2.2) = true then (nI (skip T n k), (qCol T n F k).2.1, Q) else (-1, (qCol T n F k).2.1, (Q.1, Q.2.1 ++ [(qCol T n F k).2.2], Q.2.2))) := by unfold qBy; rw [if_neg hne]
      refine k_qCol hBz hz.self (fun c2 u gu u19 => ?_) (fun c2 vv u hu => ?_)
      · rw [qCol_skip] at c2 gu ⊢
        rw [skip_skip] at u19
        rw [if_neg (fun e => e c2)] at eby
        obtain ⟨-, uL, -, -, v5, -, -, -⟩ := hBz.fq gu.1
        refine ⟨10, v5, k_qGood (RqC.good gu) (fun _ => br_f (by decide) (k_isBy uL t7 gu.2.2.1.2.1 ?_)) (fun e => absurd rfl e)⟩
        by_cases c3 : byB Q.2.1 (nI (qCol T n F k).2.2) = true
        · rw [if_pos c3] at eby ⊢
          refine br_f (by decide) ⟨10, v5, ?_⟩
          rw [u19]
          exact k_qRef hBz (by omega) (RqC.good gu) (fun a ha => m91 _ _ a ha (fun e => absurd e ne) (fun _ => by rw [eby]; rfl))
        · rw [if_neg c3] at eby ⊢
          exact br_t rfl (m91 _ _ u (RqC.good gu) (fun _ => ⟨_, _, rfl, rfl, eby⟩) (fun e => absurd rfl e))
      · rw [qCol_skip] at c2 hu
        rw [if_pos c2] at eby
        obtain ⟨-, -, -, -, v5, -, -, -⟩ := hBz.fq hu.1
        have hu2 : RqC False q T n F o z ((qCol T n F k).1, 0, Q) u := hu.rs c2
        exact ⟨10, v5, k_qGood hu2 (fun e => absurd e c2) (fun _ => br_t rfl (m91 _ _ u hu2 (fun e => absurd e c2) (fun _ => by rw [eby])))⟩
    · have e8 : Q.2.1.length = 8 := by omega
      have eq : qBy T n F k Q = (nI (skip T n k), skip T n k, Q) := by unfold qBy; rw [if_pos e8]
      rw [eq, qBd_b (show ¬ (nI (skip T n k), skip T n k, Q).1 = -1 from ne)] at pp
      refine br_f (by rw [e8]; decide) ⟨10, u5, 10, u5, ?_⟩
      rw [hz.2.1.2.1]
      refine c_refuse ?_
      rw [if_pos hz.2.1.2.2.1]
      exact pp _ ((hz.er FrT.i hz.2.1.ill).rs ne) ((FrT.i.1 o 7 ho).trans z7)
end
