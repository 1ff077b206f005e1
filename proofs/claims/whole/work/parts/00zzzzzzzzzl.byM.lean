/-! what a query is grouped by, model -/
section
variable {T : Nat → Int32} {n s : Nat} {F : List SFd} {x y : St} {Q : Qy} {r : QR}
theorem s_isByQ (hL : LM y) (h118 : fI y 0 118 = nI s) (hs : s < 3) {B : List Nat} (hB2 : SqB (fA y 79) (fA y 83) s B) {post : Int32 → St → Prop} {v : Int32} (p : post (if byB B v = true then 1 else 0) y) : wp_Mod_isBy post v y := by
  obtain ⟨b1, b2, b3⟩ := hB2
  have l79 : fN y 79 = 12 := hL 79
  have l83 : fN y 83 = 24 := hL 83
  unfold wp_Mod_isBy
  refine lp_Mod_isBy_4 (fun a1 a2 a3 z => v = a1 ∧ y = z ∧ ∃ i, i ≤ B.length ∧ nI i = a3 ∧ a2 = (if byB (B.take i) v = true then 1 else 0)) (fun _ _ a3 _ => B.length - a3.toNatClampNeg) ?_ _ _ _ _ ⟨rfl, rfl, 0, Nat.zero_le _, rfl, rfl⟩
  rintro R a1 a2 a3 z ⟨rfl, rfl, i, hi, rfl, rfl⟩ ih
  unfold j_Mod_isBy_4
  rw [h118, q41, l79, rA_nI (by omega), b1]
  refine ⟨vp_in_nI (by omega) (by decide), ?_⟩
  by_cases c : i < B.length
  · have e1 : B.take (i + 1) = B.take i ++ [B.getD i 0] := by
      rw [List.take_succ, List.getD_eq_getElem?_getD, List.getElem?_eq_getElem c]
      rfl
    have e2 : byB (B.take (i + 1)) v = (byB (B.take i) v || decide (nI (B.getD i 0) = v)) := by
      unfold byB
      rw [e1, List.any_append]
      show (_ || (_ || false)) = _
      rw [Bool.or_false]
    have tk : ∀ w : Int32, (w = if (byB (B.take i) v || decide (nI (B.getD i 0) = v)) = true then 1 else 0) → R v w (nI i + 1) y := by
      intro w ew
      rw [nI_1]
      refine ih _ _ _ _ ⟨rfl, rfl, i + 1, c, rfl, by rw [e2]; exact ew⟩ ?_
      rw [nI_clamp (by omega), nI_clamp (by omega)]
      omega
    refine br_f (by (first | omega | (simp (disch := omega) only [Int32.le_iff_toInt_le, Int32.lt_iff_toInt_lt, z_eq, z_in, nI_toInt, z_cl, z_m1, z_sg, z_255, Int32.reduceToInt] <;> omega) | (simp only [Int32.le_iff_toInt_le, Int32.lt_iff_toInt_lt, z_eq, z_in, z_add, z_sub, z_mul, z_neg, z_nI, z_cl, z_sg, z_255, z_lit, Int32.reduceToInt] <;> omega))) ?_
    unfold j_Mod_isBy_48 j_Mod_isBy_43 j_Mod_isBy_48
    generalize byB (B.take i) v = b0 at *
    cases b0
    · rw [if_neg (by decide)]
      refine bn_t rfl ?_
      rw [q8, l83, rA_nI (by omega), b3 i c]
      refine ⟨vp_in_nI (by omega) (by decide), ?_⟩
      by_cases d2 : nI (B.getD i 0) = v
      · refine bn_t d2 (tk 1 ?_)
        rw [decide_eq_true d2]
        rfl
      · refine bn_f d2 (tk 0 ?_)
        rw [decide_eq_false d2]
        rfl
    · rw [if_pos rfl]
      refine bn_f (by decide) (tk 1 ?_)
      rw [Bool.true_or]
      rfl
  · have e : i = B.length := by omega
    rw [e, List.take_length]
    refine br_t (by (first | omega | (simp (disch := omega) only [Int32.le_iff_toInt_le, Int32.lt_iff_toInt_lt, z_eq, z_in, nI_toInt, z_cl, z_m1, z_sg, z_255, Int32.reduceToInt] <;> omega) | (simp only [Int32.le_iff_toInt_le, Int32.lt_iff_toInt_lt, z_eq, z_in, z_add, z_sub, z_mul, z_neg, z_nI, z_cl, z_sg, z_255, z_lit, Int32.reduceToInt] <;> omega))) ⟨?_, p⟩
    split <;> rfl
theorem s_qBy (hB : BsM x T n F s) {post : St → Prop} {k : Nat} (h : GdM True n s x y k Q) (p : ∀ z, RqM True n s x (qBy T n F k Q) z → post z) : wp_Mod_readBy post y := by
  have t2 := hB.2.1
  have hk := h.2.2.2.1
  have sl := @skip_le T n k hk
  unfold wp_Mod_readBy
  unfold qBy at p
  refine s_qBlanks hB (RqM.good h) (fun z hz => ?_)
  have gz : GdM True n s x z (skip T n k) Q := hz.gd rfl
  obtain ⟨t1, -, t3, t4, t5, t6, t7⟩ := hB.fq gz.1
  have b2 := gz.2.2.2.2.1.2.1
  have h8 := b2.2.1
  refine nm_r gz.2.2.1 ?_
  rw [t6, q41, show fN z 79 = 12 from t3 79, rA_nI (by omega), b2.1]
  refine ⟨vp_in_nI (by omega) (by decide), ?_⟩
  have m58 : ∀ (e : Int32) (v : St) (l1 f : Int32), ¬ e = -1 → FfM True s x v e → post v → j_Mod_readBy_58 post l1 f v := by
    intro e v l1 f he hv pp
    unfold j_Mod_readBy_58
    exact br_f (by rw [hv.2.1]; exact he) pp
  have ne : ¬ nI (skip T n k) = -1 := nI_nm1 (by omega)
  by_cases c : Q.2.1.length = 8
  · rw [if_pos c] at p
    refine bn_t (by rw [c]; rfl) (s_qFail hB (by omega) hz (fun u hu => ?_))
    have hu : RqM True n s x (nI (skip T n k), skip T n k, Q) u := hu
    unfold j_Mod_readBy_32
    refine s_qCol hB hu (fun e => absurd e ne) (fun _ vv v hv => ?_)
    have hv : FfM True s x v (if nI (skip T n k) = -1 then (qCol T n F (skip T n k)).1 else nI (skip T n k)) := hv
    rw [if_neg ne] at hv
    exact bn_f (by rw [hv.2.1]; exact ne) (m58 _ v _ _ ne hv (p v (hv.rs ne)))
  · rw [if_neg c] at p
    refine bn_f (fun e => c ?_) ?_
    · rw [show (8 : Int32) = nI 8 from rfl, nI_eq (by omega) (by decide)] at e
      exact e
    unfold j_Mod_readBy_32
    refine s_qCol hB hz (fun _ c4 v hv => ?_) (fun c4 vv v hv => ?_)
    · have c4 : (qCol T n F (skip T n k)).1 = -1 := c4
      have hv : GdM True n s x v (qCol T n F (skip T n k)).2.1 Q := hv
      show (¬ fI v 0 17 = -1 → j_Mod_readBy_58 post (nI (skip T n k)) (nI (qCol T n F (skip T n k)).2.2) v) ∧ (fI v 0 17 = -1 → wp_Mod_isBy (fun (r2194 : Int32) (x2193 : St) => ((r2194 = 0 → j_Mod_readBy_58 post (nI (skip T n k)) (nI (qCol T n F (skip T n k)).2.2) x2193) ∧ (¬ r2194 = 0 → wp_Mod_fail (fun (x2196 : St) => j_Mod_readBy_58 post (nI (skip T n k)) (nI (qCol T n F (skip T n k)).2.2) x2196) (nI (skip T n k)) x2193))) (nI (qCol T n F (skip T n k)).2.2) v)
      rw [qCol_skip] at c4 hv ⊢
      rw [if_neg (fun e => e c4)] at p
      obtain ⟨-, -, u3, -, u5, u6, -⟩ := hB.fq hv.1
      obtain ⟨a1, a2, a3, a4, ⟨d1, d2, d3, d4⟩, a6, a7, a8⟩ := hv
      refine bn_t a2 (s_isByQ u3 u6 t7 d2 ?_)
      by_cases c5 : byB Q.2.1 (nI (qCol T n F k).2.2) = true
      · rw [if_pos c5] at p ⊢
        refine br_f (by decide) (s_qFail hB (by omega) (RqM.good ⟨a1, a2, a3, a4, ⟨d1, d2, d3, d4⟩, a6, a7, a8⟩) (fun v2 hv2 => ?_))
        have hv2 : RqM True n s x (nI (skip T n k), (qCol T n F k).2.1, Q) v2 := hv2
        exact m58 _ v2 _ _ ne (hv2.ft ne) (p v2 hv2)
      · rw [if_neg c5] at p ⊢
        refine br_t rfl ?_
        generalize (qCol T n F k).2.2 = f at *
        unfold j_Mod_readBy_58
        refine br_t a2 ?_
        have hk8 : 8 * s + Q.2.1.length < 24 := by omega
        have ii : vp_in (nI (8 * s + Q.2.1.length)) 24 := vp_in_nI hk8 (by decide)
        have i1 : vp_in (nI (4 * s + 1)) 12 := vp_in_nI (by omega) (by decide)
        rw [u6, q41, show fN v 79 = 12 from u3 79, rA_nI (by omega), d2.1, q8, show fN v 83 = 24 from u3 83]
        refine ⟨i1, ii, nm_e ?_⟩
        show vp_in ((4 * fI v 0 118) + 1) (fN v 79) ∧ vp_in ((4 * fI v 0 118) + 1) (fN v 79) ∧ _
        rw [u6, q41, show fN v 79 = 12 from u3 79]
        refine ⟨i1, i1, nm_r (e' := setA (setA v 83 (nI (8 * s + Q.2.1.length)) (nI f)) 79 (nI (4 * s + 1)) (nI (Q.2.1.length + 1))) (by show setA _ 79 ((4 * fI v 0 118) + 1) (rA v 79 ((4 * fI v 0 118) + 1) + 1) = _; rw [u6, q41, rA_nI (by omega), d2.1, nI_1]) (p _ ?_)⟩
        have cl : (nI (8 * s + Q.2.1.length)).toNatClampNeg = 8 * s + Q.2.1.length := nI_clamp (by omega)
        have cl2 : (nI (4 * s + 1)).toNatClampNeg = 4 * s + 1 := nI_clamp (by omega)
        refine RqM.good ⟨?_, a2, a3, a4, ⟨?_, ?_, ?_, ?_⟩, a6, a7, a8⟩
        · exact (a1.trans (FqM.a (by omega) (Or.inr (Or.inr ⟨by decide, by decide, by show 8 * s ≤ _; omega, by show _ < 8 * s + 8; omega⟩)))).trans (FqM.a (by omega) (Or.inr (Or.inr ⟨by decide, by decide, by show 4 * s ≤ _; omega, by show _ < 4 * s + 4; omega⟩)))
        · exact d1.cg (c' := upd (fA v 79) (nI (4 * s + 1)).toNatClampNeg _) (by rw [cl2, upd_ne (by omega)])
        · refine d2.add (l := f) (c' := upd (fA v 79) (nI (4 * s + 1)).toNatClampNeg (nI (Q.2.1.length + 1))) c (by rw [cl2, upd_at]) ?_
          show upd (fA v 83) (nI (8 * s + Q.2.1.length)).toNatClampNeg (nI f) = _; rw [cl]
        · exact d3.cg (c' := upd (fA v 79) (nI (4 * s + 1)).toNatClampNeg _) (by rw [cl2, upd_ne (by omega)])
        · exact d4.cg (c' := upd (fA v 79) (nI (4 * s + 1)).toNatClampNeg _) (by rw [cl2, upd_ne (by omega)])
    · have c4 : ¬ (qCol T n F (skip T n k)).1 = -1 := c4
      have hv : FfM True s x v (qCol T n F (skip T n k)).1 := hv
      rw [qCol_skip] at c4 hv
      rw [if_pos c4] at p
      exact bn_f (by rw [hv.2.1]; exact c4) (m58 _ v _ _ c4 hv (p v (hv.rs c4)))
theorem s_collects (hL : LM y) (hs : s < 3) (hQ : SqM y s Q) {post : Int32 → St → Prop} (p : post (if cll Q = true then 1 else 0) y) : wp_Mod_collects post (nI s) y := by
  obtain ⟨⟨a1, a2, a3⟩, ⟨b1, b2, b3⟩, -, -⟩ := hQ
  have l79 : fN y 79 = 12 := hL 79
  have l80 : fN y 80 = 48 := hL 80
  have lp : ∀ b0 : Bool, b0 = decide (0 < Q.2.1.length) → ∃ m, wl_Mod_collects_21 post m (nI s) (if b0 = true then 1 else 0) 0 y := by
    intro b0 eb
    refine lp_Mod_collects_21 (fun c1 c2 c3 z => nI s = c1 ∧ y = z ∧ ∃ i, i ≤ Q.1.length ∧ nI i = c3 ∧ c2 = (if (b0 || (Q.1.take i).any (fun i => decide (0 < i.1))) = true then 1 else 0)) (fun _ _ c3 _ => Q.1.length - c3.toNatClampNeg) ?_ _ _ _ _ ⟨rfl, rfl, 0, Nat.zero_le _, rfl, by rw [List.take_zero]; show _ = if (b0 || false) = true then 1 else 0; rw [Bool.or_false]⟩
    rintro R c1 c2 c3 z ⟨rfl, rfl, i, hi, rfl, rfl⟩ ih
    unfold j_Mod_collects_21
    rw [q4, l79, rA_nI (by omega), a1]
    refine ⟨vp_in_nI (by omega) (by decide), ?_⟩
    by_cases c : i < Q.1.length
    · have e1 : Q.1.take (i + 1) = Q.1.take i ++ [Q.1.getD i (0, 0, 0)] := by
        rw [List.take_succ, List.getD_eq_getElem?_getD, List.getElem?_eq_getElem c]
        rfl
      have e2 : (Q.1.take (i + 1)).any (fun i => decide (0 < i.1)) = ((Q.1.take i).any (fun i => decide (0 < i.1)) || decide (0 < (Q.1.getD i (0, 0, 0)).1)) := by
        rw [e1, List.any_append]
        show (_ || (_ || false)) = _
        rw [Bool.or_false]
      have tk : ∀ w : Int32, (w = if (b0 || ((Q.1.take i).any (fun i => decide (0 < i.1)) || decide (0 < (Q.1.getD i (0, 0, 0)).1))) = true then 1 else 0) → R (nI s) w (nI i + 1) y := by
        intro w ew
        rw [nI_1]
        refine ih _ _ _ _ ⟨rfl, rfl, i + 1, c, rfl, by rw [e2]; exact ew⟩ ?_
        rw [nI_clamp (by omega), nI_clamp (by omega)]
        omega
      refine br_f (by (first | omega | (simp (disch := omega) only [Int32.le_iff_toInt_le, Int32.lt_iff_toInt_lt, z_eq, z_in, nI_toInt, z_cl, z_m1, z_sg, z_255, Int32.reduceToInt] <;> omega) | (simp only [Int32.le_iff_toInt_le, Int32.lt_iff_toInt_lt, z_eq, z_in, z_add, z_sub, z_mul, z_neg, z_nI, z_cl, z_sg, z_255, z_lit, Int32.reduceToInt] <;> omega))) ?_
      unfold j_Mod_collects_56 j_Mod_collects_51 j_Mod_collects_56
      generalize (Q.1.take i).any (fun i => decide (0 < i.1)) = b1 at *
      by_cases d : (b0 || b1) = true
      · rw [if_pos d]
        refine bn_f (by decide) (tk 1 ?_)
        rw [← Bool.or_assoc, d, Bool.true_or, if_pos rfl]
      · rw [if_neg d]
        have d : (b0 || b1) = false := by cases q : (b0 || b1) <;> simp_all
        refine bn_t rfl ?_
        rw [q16, l80, rA_nI (by omega), (a3 i c).1]
        refine ⟨vp_in_nI (by omega) (by decide), ?_⟩
        by_cases d2 : (Q.1.getD i (0, 0, 0)).1 ≤ 0
        · refine br_t d2 (tk 0 ?_)
          rw [← Bool.or_assoc, d, Bool.false_or, decide_eq_false (by (first | omega | (simp (disch := omega) only [Int32.le_iff_toInt_le, Int32.lt_iff_toInt_lt, z_eq, z_in, nI_toInt, z_cl, z_m1, z_sg, z_255, Int32.reduceToInt] at * <;> omega) | (simp only [Int32.le_iff_toInt_le, Int32.lt_iff_toInt_lt, z_eq, z_in, z_add, z_sub, z_mul, z_neg, z_nI, z_cl, z_sg, z_255, z_lit, Int32.reduceToInt] at * <;> omega)))]
          rfl
        · refine br_f d2 (tk 1 ?_)
          rw [← Bool.or_assoc, d, Bool.false_or, decide_eq_true (by (first | omega | (simp (disch := omega) only [Int32.le_iff_toInt_le, Int32.lt_iff_toInt_lt, z_eq, z_in, nI_toInt, z_cl, z_m1, z_sg, z_255, Int32.reduceToInt] at * <;> omega) | (simp only [Int32.le_iff_toInt_le, Int32.lt_iff_toInt_lt, z_eq, z_in, z_add, z_sub, z_mul, z_neg, z_nI, z_cl, z_sg, z_255, z_lit, Int32.reduceToInt] at * <;> omega)))]
          rfl
    · have e : i = Q.1.length := by omega
      rw [e, List.take_length]
      refine br_t (by (first | omega | (simp (disch := omega) only [Int32.le_iff_toInt_le, Int32.lt_iff_toInt_lt, z_eq, z_in, nI_toInt, z_cl, z_m1, z_sg, z_255, Int32.reduceToInt] <;> omega) | (simp only [Int32.le_iff_toInt_le, Int32.lt_iff_toInt_lt, z_eq, z_in, z_add, z_sub, z_mul, z_neg, z_nI, z_cl, z_sg, z_255, z_lit, Int32.reduceToInt] <;> omega))) ⟨?_, ?_⟩
      · split <;> rfl
      · rw [eb]
        exact p
  unfold wp_Mod_collects j_Mod_collects_18
  rw [q41, l79, rA_nI (by omega), b1]
  refine ⟨vp_in_nI (by omega) (by decide), ?_⟩
  by_cases c : 0 < Q.2.1.length
  · exact br_f (by (first | omega | (simp (disch := omega) only [Int32.le_iff_toInt_le, Int32.lt_iff_toInt_lt, z_eq, z_in, nI_toInt, z_cl, z_m1, z_sg, z_255, Int32.reduceToInt] <;> omega) | (simp only [Int32.le_iff_toInt_le, Int32.lt_iff_toInt_lt, z_eq, z_in, z_add, z_sub, z_mul, z_neg, z_nI, z_cl, z_sg, z_255, z_lit, Int32.reduceToInt] <;> omega))) (lp true (decide_eq_true c).symm)
  · exact br_t (by (first | omega | (simp (disch := omega) only [Int32.le_iff_toInt_le, Int32.lt_iff_toInt_lt, z_eq, z_in, nI_toInt, z_cl, z_m1, z_sg, z_255, Int32.reduceToInt] <;> omega) | (simp only [Int32.le_iff_toInt_le, Int32.lt_iff_toInt_lt, z_eq, z_in, z_add, z_sub, z_mul, z_neg, z_nI, z_cl, z_sg, z_255, z_lit, Int32.reduceToInt] <;> omega))) (lp false (decide_eq_false c).symm)
end
