/-! a query's text, class -/
section
variable {q n o : Nat} {T : Nat → Int32} {F : List SFd} {x y : St} {Q : Qy} {k : Nat} {r : QR}
theorem RqC.up {z : St} (f : FqC True o x y) (h : RqC False q T n F o y r z) : RqC True q T n F o x r z := by
  unfold RqC at *
  by_cases c : r.1 = -1
  · rw [if_pos c] at *
    exact ⟨f.trans (FqC.up h.1 False.elim), h.2⟩
  · rw [if_neg c] at *
    exact ⟨f.trans (FqC.up h.1 False.elim), h.2⟩
theorem FqC.e7 {z : St} (f : FqC False o y z) (ho : o ≠ 10) : fI z o 7 = fI y o 7 := f.1 o 7 (fun w => by
  rcases w with w | ⟨-, w | w | w | w | ⟨w, -⟩⟩
  · exact ho w
  · omega
  · omega
  · omega
  · omega
  · exact w)
theorem k_check (hB : BsC x q n F o) {post : St → Prop} (h : GdC True q T n F o x y k Q) (hI : ∀ j, j ∈ Q.1 → j.2.2 < 2 ^ 31) (p : post (if qCk Q.2.1 Q.1 = -1 then y else setI y 10 3 (qCk Q.2.1 Q.1))) : wp_Qry_checkItems post o y := by
  obtain ⟨-, hL, -, -, t5, -, t7, -⟩ := hB.fq h.1
  obtain ⟨s2, s3, s4, -⟩ := stq t7
  obtain ⟨l1, l2, l3, -⟩ := t7.len hL
  have ho : o ≠ 10 := by rcases t7 with e | e <;> omega
  obtain ⟨⟨d1, d2, d3⟩, d4, -⟩ := h.2.2.1
  have y3 : fI y 10 3 = -1 := h.2.1.2.2.1
  unfold wp_Qry_checkItems
  refine lp_Qry_checkItems_2 (fun o' b2 w => o = o' ∧ ∃ i, i ≤ Q.1.length ∧ nI i = b2 ∧ w = (if qCk Q.2.1 (Q.1.take i) = -1 then y else setI y 10 3 (qCk Q.2.1 (Q.1.take i)))) (fun _ b2 _ => Q.1.length - b2.toNatClampNeg) ?_ _ _ _ ⟨rfl, 0, Nat.zero_le _, rfl, rfl⟩
  rintro R o' b2 w ⟨rfl, i, hi, rfl, ew⟩ ih
  have wI : ∀ k, fI w o k = fI y o k := by
    intro k
    rw [ew]
    split
    · rfl
    · show (if o = 10 ∧ k = 3 then _ else _) = _
      rw [if_neg (fun z => ho z.1)]
  have wr : w.2 = y.2 := by rw [ew]; split <;> rfl
  have wA : ∀ a, fA w a = fA y a := fun a => by show w.2.2.2.1 a = _; rw [wr]
  have wN : ∀ a, fN w a = fN y a := fun a => by show w.2.2.2.2.2 a = _; rw [wr]
  have w17 : fR w o 17 = some 10 := by show w.2.2.1 o 17 = _; rw [wr]; exact t5
  have w3 : fI w 10 3 = qCk Q.2.1 (Q.1.take i) := by
    rw [ew]
    split
    · rename_i e; rw [e]; exact y3
    · exact gI_at
  unfold j_Qry_checkItems_2
  rw [wI, d1, s2, s3, wN, l1]
  by_cases c2 : i < Q.1.length
  · refine br_f (by (first | omega | (simp (disch := omega) only [Int32.le_iff_toInt_le, Int32.lt_iff_toInt_lt, z_eq, z_in, nI_toInt, z_cl, z_m1, z_sg, z_255, Int32.reduceToInt] <;> omega) | (simp only [Int32.le_iff_toInt_le, Int32.lt_iff_toInt_lt, z_eq, z_in, z_add, z_sub, z_mul, z_neg, z_nI, z_cl, z_sg, z_255, z_lit, Int32.reduceToInt] <;> omega))) ⟨vp_in_nI (by omega) (by decide), ?_⟩
    have e1 : Q.1.take (i + 1) = Q.1.take i ++ [Q.1.getD i (0, 0, 0)] := by
      rw [List.take_succ, List.getD_eq_getElem?_getD, List.getElem?_eq_getElem c2]
      rfl
    have e2 := qCk_snoc (B := Q.2.1) (L := Q.1.take i) (i := Q.1.getD i (0, 0, 0)) (fun j hj => hI j (List.mem_of_mem_take hj))
    rw [← e1] at e2
    have e3 := d3 i c2
    have hp : (Q.1.getD i (0, 0, 0)).2.2 < 2 ^ 31 := by
      refine hI _ ?_
      rw [List.getD_eq_getElem?_getD, List.getElem?_eq_getElem c2]
      exact List.getElem_mem c2
    have nx : ∀ w2, w2 = (if qCk Q.2.1 (Q.1.take (i + 1)) = -1 then y else setI y 10 3 (qCk Q.2.1 (Q.1.take (i + 1)))) → j_Qry_checkItems_45 post R o (nI i) w2 := by
      intro w2 e4
      unfold j_Qry_checkItems_45
      rw [nI_1]
      refine ih _ _ _ ⟨rfl, i + 1, c2, rfl, e4⟩ ?_
      rw [nI_clamp (by omega), nI_clamp (by omega)]
      omega
    rw [rA_nI (by omega), wA, e3.1]
    by_cases c3 : (Q.1.getD i (0, 0, 0)).1 = 0
    · refine bn_t c3 ?_
      rw [wN, l2, rA_nI (by omega), wA, e3.2.1]
      refine ⟨vp_in_nI (by omega) (by decide), k_isBy (B := Q.2.1) (fun a ha => (wN a).trans (hL a ha)) t7 (by rw [wI, wA]; exact d4) ?_⟩
      by_cases c4 : byB Q.2.1 (Q.1.getD i (0, 0, 0)).2.1 = true
      · rw [if_pos c4]
        refine bn_f (by decide) (nx w ?_)
        rw [e2, if_neg (show ¬ ((Q.1.getD i (0, 0, 0)).1 = 0 ∧ byB Q.2.1 (Q.1.getD i (0, 0, 0)).2.1 = false) from fun e => by rw [c4] at e; exact absurd e.2 (by decide))]
        rw [ew]
        by_cases c5 : qCk Q.2.1 (Q.1.take i) = -1
        · rw [if_pos c5, if_pos c5, if_pos rfl]
        · rw [if_neg c5, if_neg c5, if_neg c5]
      · rw [if_neg c4]
        have c4f : byB Q.2.1 (Q.1.getD i (0, 0, 0)).2.1 = false := by cases e : byB Q.2.1 (Q.1.getD i (0, 0, 0)).2.1; rfl; exact absurd e c4
        refine bn_t rfl ⟨10, w17, ?_⟩
        rw [s4, wN, l3, rA_nI (by omega), wA, e3.2.2]
        refine ⟨vp_in_nI (by omega) (by decide), c_refuse (nx _ ?_)⟩
        rw [w3, e2, if_pos (show (Q.1.getD i (0, 0, 0)).1 = 0 ∧ byB Q.2.1 (Q.1.getD i (0, 0, 0)).2.1 = false from ⟨c3, c4f⟩)]
        by_cases c5 : qCk Q.2.1 (Q.1.take i) = -1
        · rw [if_pos c5, if_pos c5, if_neg (nI_nm1 hp), ew, if_pos c5]
        · rw [if_neg c5, if_neg c5, if_neg c5, ew, if_neg c5]
    · refine bn_f c3 (nx w ?_)
      rw [e2, if_neg (show ¬ ((Q.1.getD i (0, 0, 0)).1 = 0 ∧ byB Q.2.1 (Q.1.getD i (0, 0, 0)).2.1 = false) from fun e => c3 e.1)]
      rw [ew]
      by_cases c5 : qCk Q.2.1 (Q.1.take i) = -1
      · rw [if_pos c5, if_pos c5, if_pos rfl]
      · rw [if_neg c5, if_neg c5, if_neg c5]
  · have e : i = Q.1.length := by omega
    rw [e, List.take_length] at ew
    rw [ew]
    exact br_t (by (first | omega | (simp (disch := omega) only [Int32.le_iff_toInt_le, Int32.lt_iff_toInt_lt, z_eq, z_in, nI_toInt, z_cl, z_m1, z_sg, z_255, Int32.reduceToInt] <;> omega) | (simp only [Int32.le_iff_toInt_le, Int32.lt_iff_toInt_lt, z_eq, z_in, z_add, z_sub, z_mul, z_neg, z_nI, z_cl, z_sg, z_255, z_lit, Int32.reduceToInt] <;> omega))) p
/-- a query was read, well or not -/
def OutQ (q : Nat) (T : Nat → Int32) (n : Nat) (F : List SFd) (o : Nat) (x : St) (r : QR) (z : St) : Prop := RqC True q T n F o x r z ∧ (r.1 = -1 → fI z o 7 = if cll r.2.2 = true then 1 else 0)
theorem k_t120 (hB : BsC x q n F o) {post : Int32 → St → Prop} {l1 l2 : Nat} (h : OutQ q T n F o x r y) (hI : r.1 = -1 → ∀ j, j ∈ r.2.2.1 → j.2.2 < 2 ^ 31) (p : ∀ z, OutQ q T n F o x (qBd r (qEnd T n)) z → post (qBd r (qEnd T n)).1 z) : j_Qry_readText_120 post o l1 l2 y := by
  have t2 := hB.1
  have bad : ∀ (e : Int32) (z : St), ¬ e = -1 → FfC True q T n o x z e → post e z → j_Qry_readText_155 post o l1 l2 z := by
    intro e z he hz pe
    obtain ⟨-, -, -, -, u5, -, -, -⟩ := hB.fq hz.1
    obtain ⟨j, hs⟩ := hz.2
    unfold j_Qry_readText_155
    refine ⟨10, u5, c_good ?_⟩
    rw [if_neg (by rw [hs.2.2.1]; exact he)]
    refine br_t rfl ?_
    unfold j_Qry_readText_176
    exact ⟨10, u5, by rw [hs.2.2.1]; exact pe⟩
  obtain ⟨-, -, -, -, t5, -, t7, -⟩ := hB.fq h.1.fq
  have ho : o ≠ 10 := by rcases t7 with e | e <;> omega
  unfold j_Qry_readText_120
  refine ⟨10, t5, k_qGood h.1 (fun c => br_f (by decide) ⟨10, t5, ?_⟩) (fun c => br_t rfl ?_)⟩
  · rw [qBd_g c] at p
    have g := h.1.gd c
    have g7 := h.2 c
    have hI := hI c
    refine k_qNext hB g (fun z gz f => ?_)
    obtain ⟨-, -, -, -, u5, -, -, -⟩ := hB.fq gz.1
    have sl := gz.2.1.2.2.2
    have z7 : fI z o 7 = if cll r.2.2 = true then 1 else 0 := (f.1 o 7 ho).trans g7
    have z3 : fI z 10 3 = -1 := gz.2.1.2.2.1
    have zT : ∀ i, i < n → 0 ≤ T i := fun i hi => (gz.2.1.1.2.2.2.2.2 i hi).2.1
    unfold qEnd at p
    by_cases c1 : skip T n r.2.1 < n
    · rw [if_pos c1] at p ⊢
      have ne : ¬ nI (skip T n r.2.1) = -1 := nI_nm1 (by omega)
      refine br_f (fun e => ?_) ⟨10, u5, 10, u5, ?_⟩
      · have := zT _ c1
        rw [e] at this
        exact absurd this (by decide)
      · rw [gz.2.1.2.1]
        refine k_qRef hB (by omega) (RqC.good gz) (fun w hw => ?_)
        have hw : RqC True q T n F o x (nI (skip T n r.2.1), skip T n r.2.1, r.2.2) w := hw
        exact bad _ w ne (hw.ft ne) (p w ⟨(hw.ft ne).rs ne, fun e => absurd e ne⟩)
    · rw [if_neg c1] at p ⊢
      refine br_t rfl ?_
      unfold j_Qry_readText_155 j_Qry_readText_176
      refine ⟨10, u5, k_qGood (RqC.good gz) (fun _ => br_f (by decide) ?_) (fun e => absurd rfl e)⟩
      rw [z7]
      by_cases c2 : cll r.2.2 = true
      · rw [if_pos c2]
        refine br_f (by decide) (k_check hB gz hI ?_)
        by_cases c3 : qCk r.2.2.2.1 r.2.2.1 = -1
        · rw [if_neg (fun e => e.2 c3)] at p
          rw [if_pos c3]
          refine ⟨10, u5, ?_⟩
          rw [z3]
          exact p z ⟨RqC.good gz, fun _ => z7⟩
        · rw [if_pos ⟨c2, c3⟩] at p
          rw [if_neg c3]
          refine ⟨10, u5, ?_⟩
          rw [gI_at]
          exact p _ ⟨(gz.er FrT.i gz.2.1.ill).rs c3, fun e => absurd e c3⟩
      · rw [if_neg c2]
        rw [if_neg (fun e => c2 e.1)] at p
        refine br_t rfl ⟨10, u5, ?_⟩
        rw [z3]
        exact p z ⟨RqC.good gz, fun _ => z7⟩
  · rw [qBd_b c] at p
    exact bad _ y c (h.1.ft c) (p y h)
theorem k_t85 (hB : BsC x q n F o) {post : Int32 → St → Prop} {l1 l2 : Nat} (h : OutQ q T n F o x r y) (hE : r.1 = -1 → r.2.2.2.1 = []) (hI : r.1 = -1 → ∀ j, j ∈ r.2.2.1 → j.2.2 < 2 ^ 31) (p : ∀ z, OutQ q T n F o x (qBd (qBd r (qGr T n F)) (qEnd T n)) z → post (qBd (qBd r (qGr T n F)) (qEnd T n)).1 z) : j_Qry_readText_85 post o l1 l2 y := by
  have t2 := hB.1
  have hw := hB.2.2.1
  obtain ⟨-, -, -, -, t5, -, t7, -⟩ := hB.fq h.1.fq
  have ho : o ≠ 10 := by rcases t7 with e | e <;> omega
  unfold j_Qry_readText_85
  refine ⟨10, t5, k_qGood h.1 (fun c => br_f (by decide) ⟨10, t5, ?_⟩) (fun c => br_t rfl ?_)⟩
  · rw [qBd_g c] at p
    have g := h.1.gd c
    have g7 := h.2 c
    have hk := g.2.1.2.2.2
    have hI := hI c
    have hG : (qGr T n F r.2.1 r.2.2).1 = -1 → ∀ j, j ∈ (qGr T n F r.2.1 r.2.2).2.2.1 → j.2.2 < 2 ^ 31 := by
      intro e
      obtain ⟨k', L, e1, -⟩ := qGr_i hw (by omega) hk e
      rw [e1]
      exact hI
    have fin : ∀ z, OutQ q T n F o x (qGr T n F r.2.1 r.2.2) z → j_Qry_readText_120 post o l1 l2 z := fun z hz => k_t120 hB hz hG p
    refine k_qWord hB st_t4 (by decide) g (fun w z gz _ f => br_f (by decide) ?_) (fun w z gz f => br_t rfl (fin z ?_))
    · have e : qGr T n F r.2.1 r.2.2 = qBd (qWrd T n [98, 121] (-1, skip T n r.2.1 + 5, r.2.2)) (qBys T n F 9) := by unfold qGr; rw [if_pos w]
      obtain ⟨-, -, -, -, u5, -, -, -⟩ := hB.fq gz.1
      refine ⟨10, u5, k_qNeedW hB st_by (by decide) (RqC.good gz) (fun u hu fu => ?_)⟩
      have hu : RqC True q T n F o x (qWrd T n [98, 121] (-1, skip T n r.2.1 + 5, r.2.2)) u := hu
      unfold wp_Qry_readBys
      refine nm_e ?_
      obtain ⟨-, -, -, -, v5, -, -, -⟩ := hB.fq hu.fq
      have fi : FqC True o u (setI u o 7 1) := Fg.i (Or.inr ⟨rfl, Or.inr (Or.inr (Or.inr (Or.inr ⟨trivial, Or.inr (Or.inr rfl)⟩)))⟩)
      have v7 : fI (setI u o 7 1) o 7 = 1 := gI_at
      by_cases c2 : (qWrd T n [98, 121] (-1, skip T n r.2.1 + 5, r.2.2)).1 = -1
      · have gu := hu.gd c2
        have gv : GdC True q T n F o x (setI u o 7 1) (qWrd T n [98, 121] (-1, skip T n r.2.1 + 5, r.2.2)).2.1 (qWrd T n [98, 121] (-1, skip T n r.2.1 + 5, r.2.2)).2.2 := by
          obtain ⟨c1, c3, ⟨d1, d2, d3, d4⟩, c8⟩ := gu
          refine ⟨c1.trans fi, c3.o19 ho, ⟨?_, ?_, ?_, ?_⟩, c8⟩
          · rw [gI_ne (by decide)]; exact d1
          · rw [gI_ne (by decide)]; exact d2
          · rw [gI_ne (by decide)]; exact d3
          · rw [gI_ne (by decide), gI_ne (by decide)]; exact d4
        refine ⟨10, v5, k_qGood (RqC.good gv) (fun _ => ?_) (fun e => absurd rfl e)⟩
        obtain ⟨-, e3, w3⟩ := qWrd_q c2 (by omega) (show skip T n r.2.1 + 5 ≤ n from gz.2.1.2.2.2)
        rw [e3] at gv e
        rw [qBd_g rfl] at e
        have gv : GdC True q T n F o x (setI u o 7 1) (skip T n (skip T n r.2.1 + 5) + 2) r.2.2 := gv
        have e : qGr T n F r.2.1 r.2.2 = qBys T n F 9 (skip T n (skip T n r.2.1 + 5) + 2) r.2.2 := e
        have en := hE c
        have key := k_qBysL hB (post := fun z => j_Qry_readText_120 post o l1 l2 z) 9 _ r.2.2 (setI u o 7 1) (by omega) gv v7 (fun a ha a7 => fin a ⟨by rw [e]; exact ha, fun ec => ?_⟩)
        · rw [en] at key
          exact ⟨10, key⟩
        · rw [e] at ec
          obtain ⟨k', L, e4, hne, -⟩ := qBys_w hw (by omega) 9 _ r.2.2 gv.2.1.2.2.2 ec
          rw [e, e4]
          have : cll (r.2.2.1, r.2.2.2.1 ++ L, r.2.2.2.2) = true := by
            unfold cll
            rw [decide_eq_true]
            · rfl
            · show 0 < (r.2.2.2.1 ++ L).length
              rw [List.length_append]
              have := List.length_pos_iff.mpr hne
              omega
          show fI a o 7 = if cll (r.2.2.1, r.2.2.2.1 ++ L, r.2.2.2.2) = true then 1 else 0
          rw [this, if_pos rfl]
          exact a7
      · have ff : FfC True q T n o x (setI u o 7 1) (qWrd T n [98, 121] (-1, skip T n r.2.1 + 5, r.2.2)).1 := by
          obtain ⟨f1, j, f2⟩ := hu.ft c2
          exact ⟨f1.trans fi, j, f2.o19 ho⟩
        have hv : RqC True q T n F o x (qWrd T n [98, 121] (-1, skip T n r.2.1 + 5, r.2.2)) (setI u o 7 1) := by
          unfold RqC
          rw [if_neg c2]
          exact ff
        refine ⟨10, v5, k_qGood hv (fun e => absurd e c2) (fun _ => ⟨1, ?_⟩)⟩
        have ed : j_Qry_readText_120 post o l1 l2 (setI u o 7 1) := by
          refine fin _ ?_
          rw [e, qBd_b c2]
          exact ⟨hv, fun e => absurd e c2⟩
        show j_Qry_readBys_15 _ _ o 0 0 _
        unfold j_Qry_readBys_15
        exact br_f (by decide) (br_t rfl ed)
    · have e : qGr T n F r.2.1 r.2.2 = (-1, skip T n r.2.1, r.2.2) := by unfold qGr; rw [if_neg w]
      rw [e]
      exact ⟨RqC.good gz, fun _ => (f.1 o 7 ho).trans g7⟩
  · rw [qBd_b c] at p
    exact k_t120 hB h hI p
end
