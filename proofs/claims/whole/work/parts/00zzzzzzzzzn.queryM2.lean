/-! query(), model: the end -/
section
variable {T : Nat → Int32} {n s : Nat} {F : List SFd} {x y : St} {Q : Qy} {r : QR}
theorem qCk_snoc {B : List Nat} {L : List QIt} {i : QIt} (hL : ∀ j, j ∈ L → j.2.2 < 2 ^ 31) : qCk B (L ++ [i]) = if qCk B L = -1 then (if i.1 = 0 ∧ byB B i.2.1 = false then nI i.2.2 else -1) else qCk B L := by
  induction L with
  | nil => rfl
  | cons j L ih =>
    show (if j.1 = 0 ∧ byB B j.2.1 = false then nI j.2.2 else qCk B (L ++ [i])) = if (if j.1 = 0 ∧ byB B j.2.1 = false then nI j.2.2 else qCk B L) = -1 then _ else (if j.1 = 0 ∧ byB B j.2.1 = false then nI j.2.2 else qCk B L)
    by_cases c : j.1 = 0 ∧ byB B j.2.1 = false
    · rw [if_pos c, if_pos c, if_neg (nI_nm1 (hL j (List.mem_cons_self ..)))]
    · rw [if_neg c, if_neg c]
      exact ih (fun k hk => hL k (List.mem_cons_of_mem _ hk))
/-- what is behind all -/
def qEnd (T : Nat → Int32) (n : Nat) (k : Nat) (Q : Qy) : QR :=
  if skip T n k < n then (nI (skip T n k), k, Q)
  else if cll Q = true ∧ ¬ qCk Q.2.1 Q.1 = -1 then (qCk Q.2.1 Q.1, k, Q)
  else (-1, skip T n k, Q)
/-- a query was read well -/
def DnM (s : Nat) (x z : St) (Q : Qy) : Prop := FrQy x z ∧ KqM z s Q ∧ fI z 0 117 = nI s ∧ fI z 0 120 = 1 ∧ ∀ t Q', t ≠ s → KqM x t Q' → t < 3 → (ltB Q'.2.2.2).length ≤ 2000 → KqM z t Q'
theorem s_q374 (hB : BsM x T n F s) {post : Int32 → St → Prop} {k : Nat} {l1 l2 : Int32} (h : GdM True n s x y k Q) (p : ∀ z, DnM s x z Q → fI z 0 0 = fI x 0 0 → fI z 0 4 = fI x 0 4 → post (-1) z) : j_Mod_query_374 post l1 l2 y := by
  obtain ⟨a1, a2, a3, a4, a5, a6, a7, a8⟩ := h
  obtain ⟨t1, t2, t3, t4, t5, t6, t7⟩ := hB.fq a1
  unfold j_Mod_query_374
  refine br_t a2 ?_
  have l16 : fN y 16 = 4100 := t3 16
  have l92 : fN y 92 = 6000 := t3 92
  generalize hS : (ltB Q.2.2.2).length = S at *
  have W : ∀ (i : Nat) (z : St), Prop := fun i z => Fg no2 no2 no2 (fun a => a = 92) no1 y z ∧ (∀ j, (j < 2000 * s ∨ 2000 * s + 2000 ≤ j) → fA z 92 j = fA y 92 j) ∧ ∀ j, j < i → fA z 92 (2000 * s + j) = (ltB Q.2.2.2).getD j 0
  refine lp_Mod_query_389 (fun b1 b2 z => l1 = b1 ∧ ∃ i, i ≤ S ∧ nI i = b2 ∧ Fg no2 no2 no2 (fun a => a = 92) no1 y z ∧ (∀ j, (j < 2000 * s ∨ 2000 * s + 2000 ≤ j) → fA z 92 j = fA y 92 j) ∧ ∀ j, j < i → fA z 92 (2000 * s + j) = (ltB Q.2.2.2).getD j 0) (fun _ b2 _ => S - b2.toNatClampNeg) ?_ _ _ _ ⟨rfl, 0, Nat.zero_le _, rfl, Fg.refl y, fun _ _ => rfl, fun j hj => absurd hj (Nat.not_lt_zero _)⟩
  rintro R b1 b2 z ⟨rfl, i, hi, rfl, f, g1, g2⟩ ih
  have z25 : fI z 0 25 = nI S := (f.1 0 25 (fun q => q)).trans a6
  have z118 : fI z 0 118 = nI s := (f.1 0 118 (fun q => q)).trans t6
  have z16 : fA z 16 = fA y 16 := f.2.2.2.1 16 (by decide)
  have lN : ∀ a, fN z a = fN y a := fun a => congrFun f.2.2.2.2.2 a
  unfold j_Mod_query_389
  rw [z25, z118]
  by_cases c : i < S
  · refine br_f (by (first | omega | (simp (disch := omega) only [Int32.le_iff_toInt_le, Int32.lt_iff_toInt_lt, z_eq, z_in, nI_toInt, z_cl, z_m1, z_sg, z_255, Int32.reduceToInt] <;> omega) | (simp only [Int32.le_iff_toInt_le, Int32.lt_iff_toInt_lt, z_eq, z_in, z_add, z_sub, z_mul, z_neg, z_nI, z_cl, z_sg, z_255, z_lit, Int32.reduceToInt] <;> omega))) ?_
    rw [lN, l16, lN, l92, rA_nI (by omega), z16, a7 i c, show (2000 : Int32) * nI s + nI i = nI (2000 * s + i) from by rw [show (2000 : Int32) = nI 2000 from rfl, nI_mul, nI_add]]
    have cl : (nI (2000 * s + i)).toNatClampNeg = 2000 * s + i := nI_clamp (by omega)
    refine ⟨vp_in_nI (by omega) (by decide), vp_in_nI (by omega) (by decide), nm_e ?_⟩
    rw [nI_1]
    refine ih _ _ _ ⟨rfl, i + 1, c, rfl, f.trans (Fg.a rfl), fun j hj => ?_, fun j hj => ?_⟩ ?_
    · show upd (fA z 92) (nI (2000 * s + i)).toNatClampNeg _ j = _
      rw [cl, upd_ne (by omega)]
      exact g1 j hj
    · show upd (fA z 92) (nI (2000 * s + i)).toNatClampNeg _ (2000 * s + j) = _
      rw [cl]
      by_cases d : j = i
      · rw [d, upd_at]
      · rw [upd_ne (by omega)]
        exact g2 j (by omega)
    · rw [nI_clamp (by omega), nI_clamp (by omega)]
      omega
  · have e : i = S := by omega
    subst e
    refine br_t (by (first | omega | (simp (disch := omega) only [Int32.le_iff_toInt_le, Int32.lt_iff_toInt_lt, z_eq, z_in, nI_toInt, z_cl, z_m1, z_sg, z_255, Int32.reduceToInt] <;> omega) | (simp only [Int32.le_iff_toInt_le, Int32.lt_iff_toInt_lt, z_eq, z_in, z_add, z_sub, z_mul, z_neg, z_nI, z_cl, z_sg, z_255, z_lit, Int32.reduceToInt] <;> omega))) (nm_e (nm_e (p _ ⟨?_, ⟨?_, ?_, by omega⟩, rfl, rfl, ?_⟩ ?_ ?_)))
    · have f2 : FrQy y z := f.mono (fun _ _ q => q.elim) (fun _ _ q => q.elim) (fun _ _ q => q.elim) (fun a q => Or.inr (Or.inl (by omega))) (fun a q => q.elim)
      exact (a1.fr.trans f2).trans ((Fg.i (by decide)).trans (Fg.i (by decide)))
    · refine SqM.cg a5 (fun a q1 q2 => ?_) ?_
      · exact f.2.2.2.1 a (by omega)
      · exact f.2.2.2.2.1 93 (fun q => q)
    · intro j hj
      exact g2 j (by omega)
    · intro t Q' ht hQ' h3 hlen
      have k1 := hQ'.fq a1 (fun q => ht q.symm)
      refine ⟨SqM.cg k1.1 (fun a q1 q2 => f.2.2.2.1 a (by omega)) (f.2.2.2.2.1 93 (fun q => q)), fun j hj => ?_, hlen⟩
      rw [← k1.2.1 j hj]
      refine g1 _ ?_
      rcases Nat.lt_or_gt_of_ne ht with q | q <;> omega
    · show fI z 0 0 = _
      rw [show fI z 0 0 = fI y 0 0 from f.1 0 0 (fun q => q)]
      exact a1.1 0 0 (fun q => by unfold qK at q; omega)
    · show fI z 0 4 = _
      rw [show fI z 0 4 = fI y 0 4 from f.1 0 4 (fun q => q)]
      exact a1.1 0 4 (fun q => by unfold qK at q; omega)
theorem s_q235 (hB : BsM x T n F s) {post : Int32 → St → Prop} {l1 : Int32} (h : RqM True n s x r y) (hI : r.1 = -1 → ∀ j, j ∈ r.2.2.1 → j.2.2 < 2 ^ 31)
    (p0 : ¬ (qBd r (qEnd T n)).1 = -1 → ∀ z, FfM True s x z (qBd r (qEnd T n)).1 → post (qBd r (qEnd T n)).1 z)
    (p1 : (qBd r (qEnd T n)).1 = -1 → ∀ z, DnM s x z (qBd r (qEnd T n)).2.2 → fI z 0 0 = fI x 0 0 → fI z 0 4 = fI x 0 4 → post (-1) z) : j_Mod_query_235 post l1 y := by
  have t2 := hB.2.1
  -- a fault
  have bad : ∀ (e : Int32) (z : St) (l1 : Int32), ¬ e = -1 → FfM True s x z e → post e z → j_Mod_query_266 post l1 z := by
    intro e z l1 he hz pe
    obtain ⟨-, -, u3, -, -, u6, u7⟩ := hB.fq hz.1
    unfold j_Mod_query_266
    refine bn_f (by rw [hz.2.1]; exact he) ?_
    unfold j_Mod_query_289 j_Mod_query_290
    refine ⟨1, ?_⟩
    have m374 : ∀ l1 l2, j_Mod_query_374 post l1 l2 z := fun l1 l2 => by
      unfold j_Mod_query_374
      exact br_f (by rw [hz.2.1]; exact he) (by rw [hz.2.1]; exact pe)
    show j_Mod_query_293 post _ 0 0 z
    unfold j_Mod_query_293
    rw [u6, q4, show fN z 79 = 12 from u3 79]
    exact ⟨vp_in_nI (by omega) (by decide), ⟨fun _ => m374 _ _, fun _ => br_t rfl (m374 _ _)⟩⟩
  unfold j_Mod_query_235
  refine s_qBlanks hB h (fun z hz => ?_)
  by_cases c : r.1 = -1
  · rw [qBd_g c] at p0 p1
    have gz := hz.gd c
    have gz : GdM True n s x z (skip T n r.2.1) r.2.2 := gz
    have hI := hI c
    obtain ⟨u1, -, u3, u4, u5, u6, u7⟩ := hB.fq gz.1
    have k4 := gz.2.2.2.1
    refine bn_t gz.2.1 ?_
    rw [gz.2.2.1, u1.1]
    unfold qEnd at p0 p1
    generalize r.2.2 = Q at *
    generalize skip T n r.2.1 = k at *
    by_cases c1 : k < n
    · rw [if_pos c1] at p0
      have ne : ¬ nI k = -1 := nI_nm1 (by omega)
      refine br_f (by (first | omega | (simp (disch := omega) only [Int32.le_iff_toInt_le, Int32.lt_iff_toInt_lt, z_eq, z_in, nI_toInt, z_cl, z_m1, z_sg, z_255, Int32.reduceToInt] <;> omega) | (simp only [Int32.le_iff_toInt_le, Int32.lt_iff_toInt_lt, z_eq, z_in, z_add, z_sub, z_mul, z_neg, z_nI, z_cl, z_sg, z_255, z_lit, Int32.reduceToInt] <;> omega))) (s_qFail hB (by omega) (RqM.good gz) (fun w hw => ?_))
      have hw : RqM True n s x (nI k, k, Q) w := hw
      exact bad _ w _ ne (hw.ft ne) (p0 ne w (hw.ft ne))
    · rw [if_neg c1] at p0 p1
      refine br_t (by (first | omega | (simp (disch := omega) only [Int32.le_iff_toInt_le, Int32.lt_iff_toInt_lt, z_eq, z_in, nI_toInt, z_cl, z_m1, z_sg, z_255, Int32.reduceToInt] <;> omega) | (simp only [Int32.le_iff_toInt_le, Int32.lt_iff_toInt_lt, z_eq, z_in, z_add, z_sub, z_mul, z_neg, z_nI, z_cl, z_sg, z_255, z_lit, Int32.reduceToInt] <;> omega))) ?_
      unfold j_Mod_query_266
      refine bn_t gz.2.1 ?_
      rw [u6]
      refine s_collects u3 u7 gz.2.2.2.2.1 ?_
      obtain ⟨⟨d1, d2, d3⟩, d4, d5, d6⟩ := gz.2.2.2.2.1
      -- items that must lie behind by
      have key : ∀ b0 : Bool, b0 = cll Q → ∃ m, wl_Mod_query_293 post m (if b0 = true then 1 else 0) 0 z := by
        intro b0 eb
        refine lp_Mod_query_293 (fun b1 b2 w => (if b0 = true then 1 else 0) = b1 ∧ ∃ i, i ≤ Q.1.length ∧ nI i = b2 ∧ (b0 = false → i = 0) ∧ w = (if qCk Q.2.1 (Q.1.take i) = -1 then z else setI z 0 17 (qCk Q.2.1 (Q.1.take i)))) (fun _ b2 _ => Q.1.length - b2.toNatClampNeg) ?_ _ _ _ ⟨rfl, 0, Nat.zero_le _, rfl, fun _ => rfl, rfl⟩
        rintro R b1 b2 w ⟨rfl, i, hi, rfl, hb, ew⟩ ih
        have wI : ∀ k, k ≠ 17 → fI w 0 k = fI z 0 k := by
          intro k hk
          rw [ew]
          split
          · rfl
          · exact gI_ne hk
        have wr : w.2 = z.2 := by rw [ew]; split <;> rfl
        have wA : ∀ a, fA w a = fA z a := fun a => by show w.2.2.2.1 a = _; rw [wr]
        have wN : ∀ a, fN w a = fN z a := fun a => by show w.2.2.2.2.2 a = _; rw [wr]
        have w17 : fI w 0 17 = qCk Q.2.1 (Q.1.take i) := by
          rw [ew]
          split
          · rename_i q; rw [q]; exact gz.2.1
          · exact gI_at
        have stop : (i = Q.1.length ∨ b0 = false) → ∀ l1 l2, j_Mod_query_374 post l1 l2 w := by
          intro q l1 l2
          by_cases d : cll Q = true ∧ ¬ qCk Q.2.1 Q.1 = -1
          · rw [if_pos d] at p0
            have ei : i = Q.1.length := by rcases q with q | q; exact q; rw [d.1] at eb; rw [eb] at q; exact absurd q (by decide)
            rw [ei, List.take_length] at w17 ew
            rw [if_neg d.2] at ew
            unfold j_Mod_query_374
            rw [w17]
            refine br_f d.2 (p0 d.2 w ?_)
            rw [ew]
            exact ⟨gz.1.trans (FqM.i (Or.inr (Or.inl rfl))), rfl, k, gz.2.2.1, by omega⟩
          · rw [if_neg d] at p1
            have e1 : qCk Q.2.1 (Q.1.take i) = -1 := by
              rcases q with q | q
              · rw [q, List.take_length]
                by_cases d2 : qCk Q.2.1 Q.1 = -1
                · exact d2
                · have d3 : ¬ cll Q = true := fun z => d ⟨z, d2⟩
                  rw [← eb] at d3
                  have d4 : b0 = false := by cases b0; rfl; exact absurd rfl d3
                  have := hb d4
                  rw [this] at q
                  rw [List.length_eq_zero_iff.mp q.symm]
                  rfl
              · rw [hb q]; rfl
            rw [if_pos e1] at ew
            rw [ew]
            exact s_q374 hB gz (p1 rfl)
        unfold j_Mod_query_293
        rw [wI 118 (by decide), u6, q4, wN, show fN z 79 = 12 from u3 79, rA_nI (by omega), wA, d1]
        refine ⟨vp_in_nI (by omega) (by decide), ?_⟩
        by_cases c2 : i < Q.1.length
        · refine br_f (by (first | omega | (simp (disch := omega) only [Int32.le_iff_toInt_le, Int32.lt_iff_toInt_lt, z_eq, z_in, nI_toInt, z_cl, z_m1, z_sg, z_255, Int32.reduceToInt] <;> omega) | (simp only [Int32.le_iff_toInt_le, Int32.lt_iff_toInt_lt, z_eq, z_in, z_add, z_sub, z_mul, z_neg, z_nI, z_cl, z_sg, z_255, z_lit, Int32.reduceToInt] <;> omega))) ?_
          cases b0 with
          | false => exact br_t rfl (stop (Or.inr rfl) _ _)
          | true =>
            refine br_f (by decide) ?_
            have e1 : Q.1.take (i + 1) = Q.1.take i ++ [Q.1.getD i (0, 0, 0)] := by
              rw [List.take_succ, List.getD_eq_getElem?_getD, List.getElem?_eq_getElem c2]
              rfl
            have e2 := qCk_snoc (B := Q.2.1) (L := Q.1.take i) (i := Q.1.getD i (0, 0, 0)) (fun j hj => hI j (List.mem_of_mem_take hj))
            rw [← e1] at e2
            have e3 := d3 i c2
            have hp : (Q.1.getD i (0, 0, 0)).2.2 < 2 ^ 31 := by
              refine hI _ ?_
              rw [List.getD_eq_getElem?_getD, List.getElem?_eq_getElem c2]
              exact List.getElem_mem c2
            have nx : ∀ w2, w2 = (if qCk Q.2.1 (Q.1.take (i + 1)) = -1 then z else setI z 0 17 (qCk Q.2.1 (Q.1.take (i + 1)))) → ∀ s2 : Nat, j_Mod_query_368 post R (if true = true then 1 else 0) (nI i) w2 := by
              intro w2 e4 s2
              unfold j_Mod_query_368
              rw [nI_1]
              refine ih _ _ _ ⟨rfl, i + 1, c2, rfl, fun q => absurd q (by decide), e4⟩ ?_
              rw [nI_clamp (by omega), nI_clamp (by omega)]
              omega
            rw [q16, wN, show fN z 80 = 48 from u3 80, rA_nI (by omega), wA, e3.1]
            have ii : vp_in (nI (16 * s + i)) 48 := vp_in_nI (by omega) (by decide)
            refine ⟨ii, ?_⟩
            by_cases c3 : (Q.1.getD i (0, 0, 0)).1 = 0
            · refine bn_t c3 ?_
              rw [wN, show fN z 81 = 48 from u3 81, rA_nI (by omega), wA, e3.2.1]
              refine ⟨ii, s_isByQ (s := s) (B := Q.2.1) (fun a => (wN a).trans (u3 a)) ((wI 118 (by decide)).trans u6) u7 (by rw [wA, wA]; exact d4) ?_⟩
              by_cases c4 : byB Q.2.1 (Q.1.getD i (0, 0, 0)).2.1 = true
              · rw [if_pos c4]
                refine bn_f (by decide) (nx w ?_ 0)
                rw [e2, if_neg (show ¬ ((Q.1.getD i (0, 0, 0)).1 = 0 ∧ byB Q.2.1 (Q.1.getD i (0, 0, 0)).2.1 = false) from fun q => by rw [c4] at q; exact absurd q.2 (by decide))]
                rw [ew]
                by_cases c5 : qCk Q.2.1 (Q.1.take i) = -1
                · rw [if_pos c5, if_pos c5, if_pos rfl]
                · rw [if_neg c5, if_neg c5, if_neg c5]
              · rw [if_neg c4]
                have c4f : byB Q.2.1 (Q.1.getD i (0, 0, 0)).2.1 = false := by cases q : byB Q.2.1 (Q.1.getD i (0, 0, 0)).2.1; rfl; exact absurd q c4
                refine bn_t rfl ?_
                rw [wI 118 (by decide), u6, q16, wN, show fN z 82 = 48 from u3 82, rA_nI (by omega), wA, e3.2.2]
                refine ⟨ii, s_fail (nx _ ?_ 0)⟩
                rw [w17, e2, if_pos (show (Q.1.getD i (0, 0, 0)).1 = 0 ∧ byB Q.2.1 (Q.1.getD i (0, 0, 0)).2.1 = false from ⟨c3, c4f⟩)]
                by_cases c5 : qCk Q.2.1 (Q.1.take i) = -1
                · rw [if_pos c5, if_pos c5, if_neg (nI_nm1 hp), ew, if_pos c5]
                · rw [if_neg c5, if_neg c5, if_neg c5, ew, if_neg c5]
            · refine bn_f c3 (nx w ?_ 0)
              rw [e2, if_neg (show ¬ ((Q.1.getD i (0, 0, 0)).1 = 0 ∧ byB Q.2.1 (Q.1.getD i (0, 0, 0)).2.1 = false) from fun q => c3 q.1)]
              rw [ew]
              by_cases c5 : qCk Q.2.1 (Q.1.take i) = -1
              · rw [if_pos c5, if_pos c5, if_pos rfl]
              · rw [if_neg c5, if_neg c5, if_neg c5]
        · exact br_t (by (first | omega | (simp (disch := omega) only [Int32.le_iff_toInt_le, Int32.lt_iff_toInt_lt, z_eq, z_in, nI_toInt, z_cl, z_m1, z_sg, z_255, Int32.reduceToInt] <;> omega) | (simp only [Int32.le_iff_toInt_le, Int32.lt_iff_toInt_lt, z_eq, z_in, z_add, z_sub, z_mul, z_neg, z_nI, z_cl, z_sg, z_255, z_lit, Int32.reduceToInt] <;> omega))) (stop (Or.inl (by omega)) _ _)
      unfold j_Mod_query_289 j_Mod_query_290
      by_cases c2 : cll Q = true
      · rw [if_pos c2]
        have := key true c2.symm
        exact br_f (by decide) this
      · rw [if_neg c2]
        have := key false (by cases q : cll Q; rfl; exact absurd q c2)
        exact br_t rfl this
  · rw [qBd_b c] at p0
    have hz2 : RqM True n s x r z := (hz.ft c).rs c
    refine bn_f (by rw [hz.e]; exact c) (bad _ z _ c (hz2.ft c) (p0 c z (hz2.ft c)))
end
