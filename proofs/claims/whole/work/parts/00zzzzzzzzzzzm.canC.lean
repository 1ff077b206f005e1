/-! what can be, class -/
/-- what a teller of the class tells -/
def TlC (x : St) (b ty t : Nat) (τ : Tl) : Prop := t < 6000 ∧ fA x 90 t = nI τ.1 ∧ fA x 91 t = nI τ.2.1 ∧ τ.1 ≤ 10000 ∧ τ.2.1 ≤ τ.1 ∧ (τ.2.1 < τ.1 → RfP x b ty (fL x 92 t) τ.2.2.1 ∧ RfP x b ty (fL x 93 t) τ.2.2.2.1 ∧ ((fA x 94 t = -1 ∧ τ.2.2.2.2 = []) ∨ (τ.2.2.2.2 ≠ [] ∧ ∃ d, fA x 94 t = nI (d * 128 + τ.2.2.2.2.length) ∧ d + τ.2.2.2.2.length ≤ 10000 ∧ τ.2.2.2.2.length ≤ 100 ∧ VsC x 95 d b ty τ.2.2.2.2)))
theorem k_canHold {post : Int32 → St → Prop} {op : Nat} {lo hi : Int32} {x : St} (h : op ≤ 5) (p : post (if cHl op lo hi = true then 1 else 0) x) : wp_Ans_canHold (fun (r12 : Int32) (x11 : St) => (narrow .boolean (.int r12) = .int r12 ∧ post r12 x11)) (cop (nI op)) lo hi x := by
  have e : op = 0 ∨ op = 1 ∨ op = 2 ∨ op = 3 ∨ op = 4 ∨ op = 5 := by omega
  unfold wp_Ans_canHold j_Ans_canHold_48 j_Ans_canHold_58
  rcases e with e | e | e | e | e | e <;> subst e
  · have e0 : (cop (nI 0)).toInt = 0 := by decide
    rw [e0]
    refine ⟨fun _ => ?_, fun z => absurd z (by decide), fun z => absurd z (by decide), fun z => absurd z (by decide), fun z => absurd z (by decide), fun z => absurd z (by decide)⟩
    have p : post (if (decide (lo ≤ 0) && decide (0 ≤ hi)) = true then 1 else 0) x := p
    by_cases d : lo ≤ 0
    · refine br_f (fun z => by (first | omega | (simp (disch := omega) only [Int32.le_iff_toInt_le, Int32.lt_iff_toInt_lt, z_eq, z_in, nI_toInt, z_cl, z_m1, z_sg, z_255, Int32.reduceToInt] at * <;> omega) | (simp only [Int32.le_iff_toInt_le, Int32.lt_iff_toInt_lt, z_eq, z_in, z_add, z_sub, z_mul, z_neg, z_nI, z_cl, z_sg, z_255, z_lit, Int32.reduceToInt] at * <;> omega))) ?_
      by_cases d2 : 0 ≤ hi
      · rw [if_pos (by rw [decide_eq_true d, decide_eq_true d2]; rfl)] at p
        exact br_f (fun z => by (first | omega | (simp (disch := omega) only [Int32.le_iff_toInt_le, Int32.lt_iff_toInt_lt, z_eq, z_in, nI_toInt, z_cl, z_m1, z_sg, z_255, Int32.reduceToInt] at * <;> omega) | (simp only [Int32.le_iff_toInt_le, Int32.lt_iff_toInt_lt, z_eq, z_in, z_add, z_sub, z_mul, z_neg, z_nI, z_cl, z_sg, z_255, z_lit, Int32.reduceToInt] at * <;> omega))) ⟨rfl, p⟩
      · rw [if_neg (by rw [decide_eq_false d2, Bool.and_false]; decide)] at p
        exact br_t (by (first | omega | (simp (disch := omega) only [Int32.le_iff_toInt_le, Int32.lt_iff_toInt_lt, z_eq, z_in, nI_toInt, z_cl, z_m1, z_sg, z_255, Int32.reduceToInt] at * <;> omega) | (simp only [Int32.le_iff_toInt_le, Int32.lt_iff_toInt_lt, z_eq, z_in, z_add, z_sub, z_mul, z_neg, z_nI, z_cl, z_sg, z_255, z_lit, Int32.reduceToInt] at * <;> omega))) ⟨rfl, p⟩
    · rw [if_neg (by rw [decide_eq_false d, Bool.false_and]; decide)] at p
      exact br_t (by (first | omega | (simp (disch := omega) only [Int32.le_iff_toInt_le, Int32.lt_iff_toInt_lt, z_eq, z_in, nI_toInt, z_cl, z_m1, z_sg, z_255, Int32.reduceToInt] at * <;> omega) | (simp only [Int32.le_iff_toInt_le, Int32.lt_iff_toInt_lt, z_eq, z_in, z_add, z_sub, z_mul, z_neg, z_nI, z_cl, z_sg, z_255, z_lit, Int32.reduceToInt] at * <;> omega))) ⟨rfl, p⟩
  · have e0 : (cop (nI 1)).toInt = 1 := by decide
    rw [e0]
    refine ⟨fun z => absurd z (by decide), fun _ => ?_, fun z => absurd z (by decide), fun z => absurd z (by decide), fun z => absurd z (by decide), fun z => absurd z (by decide)⟩
    have p : post (if (decide (¬ lo = 0) || decide (¬ hi = 0)) = true then 1 else 0) x := p
    by_cases d : lo = 0
    · refine bn_t d ?_
      by_cases d2 : hi = 0
      · rw [if_neg (by rw [decide_eq_false (fun z => z d), decide_eq_false (fun z => z d2)]; decide)] at p
        exact br_t d2 ⟨rfl, p⟩
      · rw [if_pos (by rw [decide_eq_true d2, Bool.or_true])] at p
        exact br_f d2 ⟨rfl, p⟩
    · rw [if_pos (by rw [decide_eq_true d, Bool.true_or])] at p
      exact bn_f d ⟨rfl, p⟩
  · have e0 : (cop (nI 2)).toInt = 2 := by decide
    rw [e0]
    refine ⟨fun z => absurd z (by decide), fun z => absurd z (by decide), fun _ => ?_, fun z => absurd z (by decide), fun z => absurd z (by decide), fun z => absurd z (by decide)⟩
    have p : post (if decide (lo < 0) = true then 1 else 0) x := p
    by_cases d : lo < 0
    · rw [if_pos (decide_eq_true d)] at p; exact br_f (by (first | omega | (simp (disch := omega) only [Int32.le_iff_toInt_le, Int32.lt_iff_toInt_lt, z_eq, z_in, nI_toInt, z_cl, z_m1, z_sg, z_255, Int32.reduceToInt] at * <;> omega) | (simp only [Int32.le_iff_toInt_le, Int32.lt_iff_toInt_lt, z_eq, z_in, z_add, z_sub, z_mul, z_neg, z_nI, z_cl, z_sg, z_255, z_lit, Int32.reduceToInt] at * <;> omega))) ⟨rfl, p⟩
    · rw [if_neg (fun z => d (of_decide_eq_true z))] at p; exact br_t (by (first | omega | (simp (disch := omega) only [Int32.le_iff_toInt_le, Int32.lt_iff_toInt_lt, z_eq, z_in, nI_toInt, z_cl, z_m1, z_sg, z_255, Int32.reduceToInt] at * <;> omega) | (simp only [Int32.le_iff_toInt_le, Int32.lt_iff_toInt_lt, z_eq, z_in, z_add, z_sub, z_mul, z_neg, z_nI, z_cl, z_sg, z_255, z_lit, Int32.reduceToInt] at * <;> omega))) ⟨rfl, p⟩
  · have e0 : (cop (nI 3)).toInt = 5 := by decide
    rw [e0]
    refine ⟨fun z => absurd z (by decide), fun z => absurd z (by decide), fun z => absurd z (by decide), fun z => absurd z (by decide), fun z => absurd z (by decide), fun _ => ?_⟩
    have p : post (if decide (lo ≤ 0) = true then 1 else 0) x := p
    by_cases d : lo ≤ 0
    · rw [if_pos (decide_eq_true d)] at p; exact br_f (by (first | omega | (simp (disch := omega) only [Int32.le_iff_toInt_le, Int32.lt_iff_toInt_lt, z_eq, z_in, nI_toInt, z_cl, z_m1, z_sg, z_255, Int32.reduceToInt] at * <;> omega) | (simp only [Int32.le_iff_toInt_le, Int32.lt_iff_toInt_lt, z_eq, z_in, z_add, z_sub, z_mul, z_neg, z_nI, z_cl, z_sg, z_255, z_lit, Int32.reduceToInt] at * <;> omega))) ⟨rfl, p⟩
    · rw [if_neg (fun z => d (of_decide_eq_true z))] at p; exact br_t (by (first | omega | (simp (disch := omega) only [Int32.le_iff_toInt_le, Int32.lt_iff_toInt_lt, z_eq, z_in, nI_toInt, z_cl, z_m1, z_sg, z_255, Int32.reduceToInt] at * <;> omega) | (simp only [Int32.le_iff_toInt_le, Int32.lt_iff_toInt_lt, z_eq, z_in, z_add, z_sub, z_mul, z_neg, z_nI, z_cl, z_sg, z_255, z_lit, Int32.reduceToInt] at * <;> omega))) ⟨rfl, p⟩
  · have e0 : (cop (nI 4)).toInt = 4 := by decide
    rw [e0]
    refine ⟨fun z => absurd z (by decide), fun z => absurd z (by decide), fun z => absurd z (by decide), fun z => absurd z (by decide), fun _ => ?_, fun z => absurd z (by decide)⟩
    have p : post (if decide (0 < hi) = true then 1 else 0) x := p
    by_cases d : 0 < hi
    · rw [if_pos (decide_eq_true d)] at p; exact br_f (by (first | omega | (simp (disch := omega) only [Int32.le_iff_toInt_le, Int32.lt_iff_toInt_lt, z_eq, z_in, nI_toInt, z_cl, z_m1, z_sg, z_255, Int32.reduceToInt] at * <;> omega) | (simp only [Int32.le_iff_toInt_le, Int32.lt_iff_toInt_lt, z_eq, z_in, z_add, z_sub, z_mul, z_neg, z_nI, z_cl, z_sg, z_255, z_lit, Int32.reduceToInt] at * <;> omega))) ⟨rfl, p⟩
    · rw [if_neg (fun z => d (of_decide_eq_true z))] at p; exact br_t (by (first | omega | (simp (disch := omega) only [Int32.le_iff_toInt_le, Int32.lt_iff_toInt_lt, z_eq, z_in, nI_toInt, z_cl, z_m1, z_sg, z_255, Int32.reduceToInt] at * <;> omega) | (simp only [Int32.le_iff_toInt_le, Int32.lt_iff_toInt_lt, z_eq, z_in, z_add, z_sub, z_mul, z_neg, z_nI, z_cl, z_sg, z_255, z_lit, Int32.reduceToInt] at * <;> omega))) ⟨rfl, p⟩
  · have e0 : (cop (nI 5)).toInt = 3 := by decide
    rw [e0]
    refine ⟨fun z => absurd z (by decide), fun z => absurd z (by decide), fun z => absurd z (by decide), fun _ => ?_, fun z => absurd z (by decide), fun z => absurd z (by decide)⟩
    have p : post (if decide (0 ≤ hi) = true then 1 else 0) x := p
    by_cases d : 0 ≤ hi
    · rw [if_pos (decide_eq_true d)] at p; exact br_f (by (first | omega | (simp (disch := omega) only [Int32.le_iff_toInt_le, Int32.lt_iff_toInt_lt, z_eq, z_in, nI_toInt, z_cl, z_m1, z_sg, z_255, Int32.reduceToInt] at * <;> omega) | (simp only [Int32.le_iff_toInt_le, Int32.lt_iff_toInt_lt, z_eq, z_in, z_add, z_sub, z_mul, z_neg, z_nI, z_cl, z_sg, z_255, z_lit, Int32.reduceToInt] at * <;> omega))) ⟨rfl, p⟩
    · rw [if_neg (fun z => d (of_decide_eq_true z))] at p; exact br_t (by (first | omega | (simp (disch := omega) only [Int32.le_iff_toInt_le, Int32.lt_iff_toInt_lt, z_eq, z_in, nI_toInt, z_cl, z_m1, z_sg, z_255, Int32.reduceToInt] at * <;> omega) | (simp only [Int32.le_iff_toInt_le, Int32.lt_iff_toInt_lt, z_eq, z_in, z_add, z_sub, z_mul, z_neg, z_nI, z_cl, z_sg, z_255, z_lit, Int32.reduceToInt] at * <;> omega))) ⟨rfl, p⟩
theorem cop_ctr {op : Nat} (h : op ≤ 5) : cop (nI op) ^^^ 1 = cop (nI (ctr op)) := by
  have e : ∀ k : Fin 6, cop (nI k.val) ^^^ 1 = cop (nI (ctr k.val)) := by decide
  exact e ⟨op, by omega⟩
theorem dic_i {d n : Nat} (hd : d ≤ 10000) (hn : n ≤ 100) : nI (d * 128 + n) / 128 = nI d ∧ nI d + (nI (d * 128 + n) - nI (d * 128 + n) / 128 * 128) = nI (d + n) := by
  have e : nI (d * 128 + n) / 128 = nI d := by
    show nI (d * 128 + n) / nI 128 = _
    rw [nI_dv (by omega) (by decide) (by decide)]
    congr 1
    omega
  rw [e]
  refine ⟨rfl, ?_⟩
  have e2 : nI d * 128 = nI (d * 128) := by
    show nI d * nI 128 = _
    rw [nI_mul]
  rw [e2, nI_sub (by omega), Nat.add_sub_cancel_left, nI_add]
section
variable {x y : St} {F : List SFd} {G : List Nat} {K : List ChT} {CK : List (List PgW)} {b dE f r o qo s t : Nat} {Q : Qy}
theorem k_canCompare {post : Int32 → St → Prop} {op t u ty : Nat} {τ υ : Tl} (A : AnC x o qo F G K CK b dE Q) (h : op ≤ 5) (hty : ty < 4) (hτ : TlC x b ty t τ) (hυ : TlC x b ty u υ) (nτ : τ.2.1 < τ.1) (nυ : υ.2.1 < υ.1) (p : post (if cHl op (cmpV ty τ.2.2.1 υ.2.2.2.1) (cmpV ty τ.2.2.2.1 υ.2.2.1) = true then 1 else 0) x) : wp_Ans_canCompare post o (cop (nI op)) (nI ty) (nI t) (nI u) x := by
  have h14 := A.2.2.2.1
  have hL := A.1.1
  have hb := A.1.bb
  obtain ⟨t1, -, -, -, -, t2⟩ := hτ
  obtain ⟨u1, -, -, -, -, u2⟩ := hυ
  obtain ⟨ta, tb, -⟩ := t2 nτ
  obtain ⟨ua, ub, -⟩ := u2 nυ
  have vt : vp_in (nI t) 6000 := vp_in_nI t1 (by decide)
  have vu : vp_in (nI u) 6000 := vp_in_nI u1 (by decide)
  have l92 : fN x 92 = 6000 := hL 92 (by decide)
  have l93 : fN x 93 = 6000 := hL 93 (by decide)
  unfold wp_Ans_canCompare
  refine ⟨97, h14, 97, h14, by show vp_in _ (fN x 92); rw [l92]; exact vt, 97, h14, by show vp_in _ (fN x 93); rw [l93]; exact vu, ?_⟩
  have e1 : rL x (stC 97 16) (nI t) = fL x 92 t := rL_nI (by omega)
  have e2 : rL x (stC 97 17) (nI u) = fL x 93 u := rL_nI (by omega)
  have e3 : rL x (stC 97 17) (nI t) = fL x 93 t := rL_nI (by omega)
  have e4 : rL x (stC 97 16) (nI u) = fL x 92 u := rL_nI (by omega)
  rw [e1, e2]
  refine k_cmp hL hb hty ta ub ⟨97, h14, 97, h14, by show vp_in _ (fN x 93); rw [l93]; exact vt, 97, h14, by show vp_in _ (fN x 92); rw [l92]; exact vu, ?_⟩
  rw [e3, e4]
  exact k_cmp hL hb hty tb ua (k_canHold h p)
theorem k_canBe {post : Int32 → St → Prop} {op : Nat} {τ : Tl} {v : Int64} {l : PV} (A : AnC x o qo F G K CK b dE Q) (h : op ≤ 5) (hf : colF F f) (hτ : TlC x b (tOf F (nI f)) t τ) (nτ : τ.2.1 < τ.1) (hl : RfC x (qo + 10) (tOf F (nI f)) v l) (p : post (if canC (tOf F (nI f)) op τ l = true then 1 else 0) x) : wp_Ans_canBe post o (cop (nI op)) (nI (tOf F (nI f))) (nI t) v x := by
  have h14 := A.2.2.2.1
  have h15 := A.2.2.2.2.1
  have hL := A.1.1
  have hb := A.1.bb
  obtain ⟨-, t4, tE⟩ := tOf_n A.1.2.2.1.2.1 hf
  obtain ⟨-, -, -, -, -, -, -, -, -, c16⟩ := stq A.2.2.1
  obtain ⟨t1, -, -, -, -, t2⟩ := hτ
  obtain ⟨ta, tb, tc⟩ := t2 nτ
  generalize tOf F (nI f) = ty at *
  have vt : vp_in (nI t) 6000 := vp_in_nI t1 (by decide)
  have e1 : rL x (stC 97 16) (nI t) = fL x 92 t := rL_nI (by omega)
  have e3 : rL x (stC 97 17) (nI t) = fL x 93 t := rL_nI (by omega)
  have e5 : rA x (stC 97 18) (nI t) = fA x 94 t := rA_nI (by omega)
  have l92 : fN x 92 = 6000 := hL 92 (by decide)
  have l93 : fN x 93 = 6000 := hL 93 (by decide)
  have l94 : fN x 94 = 6000 := hL 94 (by decide)
  have l95 : fN x 95 = 11000 := hL 95 (by decide)
  unfold wp_Ans_canBe
  refine ⟨97, h14, qo, h15, 97, h14, by show vp_in _ (fN x 94); rw [l94]; exact vt, nm_e ?_⟩
  rw [e5, c16]
  unfold canC at p
  rcases tc with ⟨q1, q2⟩ | ⟨q0, d, q1, q2, q3, q4⟩
  · rw [if_pos q2] at p
    refine bn_t q1 ⟨97, h14, by show vp_in _ (fN x 92); rw [l92]; exact vt, ?_⟩
    rw [e1]
    refine c_compare2 (r := 82) t4 (ta.c hL hb) hl ⟨97, h14, by show vp_in _ (fN x 93); rw [l93]; exact vt, ?_⟩
    rw [e3]
    exact c_compare2 (r := 82) t4 (tb.c hL hb) hl (k_canHold h p)
  · rw [if_neg q0] at p
    obtain ⟨i1, i2⟩ := dic_i (d := d) (n := τ.2.2.2.2.length) (by omega) q3
    generalize hW : τ.2.2.2.2 = W at *
    rw [q1]
    refine bn_f (nI_nm1 (by omega)) (nm_r (e' := nI d) i1 ?_)
    refine lp_Ans_canBe_98 (fun b0 b1 b2 b3 b4 b6 b7 b8 b9 b10 y => y = x ∧ b0 = o ∧ cop (nI op) = b1 ∧ nI ty = b2 ∧ v = b4 ∧ 82 = b6 ∧ qo + 10 = b7 ∧ nI (d * 128 + W.length) = b8 ∧ nI d = b9 ∧ ∃ k, k ≤ W.length ∧ nI (d + k) = b10 ∧ (W.take k).any (fun w => hld op (cmpV ty w l)) = false) (fun _ _ _ _ _ _ _ _ _ b10 _ => d + W.length - b10.toNatClampNeg) ?_ _ _ _ _ _ _ _ _ _ _ _ ⟨rfl, rfl, rfl, rfl, rfl, rfl, rfl, rfl, rfl, 0, Nat.zero_le _, rfl, rfl⟩
    rintro R b0 b1 b2 b3 b4 b6 b7 b8 b9 b10 y ⟨rfl, rfl, rfl, rfl, rfl, rfl, rfl, rfl, rfl, k, hk, rfl, no⟩ ih
    unfold j_Ans_canBe_98
    rw [i2]
    by_cases c : k = W.length
    · subst c
      rw [List.take_length] at no
      rw [no] at p
      exact br_t (by (first | omega | (simp (disch := omega) only [Int32.le_iff_toInt_le, Int32.lt_iff_toInt_lt, z_eq, z_in, nI_toInt, z_cl, z_m1, z_sg, z_255, Int32.reduceToInt] <;> omega) | (simp only [Int32.le_iff_toInt_le, Int32.lt_iff_toInt_lt, z_eq, z_in, z_add, z_sub, z_mul, z_neg, z_nI, z_cl, z_sg, z_255, z_lit, Int32.reduceToInt] <;> omega))) p
    · have kW : k < W.length := by omega
      refine br_f (by (first | omega | (simp (disch := omega) only [Int32.le_iff_toInt_le, Int32.lt_iff_toInt_lt, z_eq, z_in, nI_toInt, z_cl, z_m1, z_sg, z_255, Int32.reduceToInt] <;> omega) | (simp only [Int32.le_iff_toInt_le, Int32.lt_iff_toInt_lt, z_eq, z_in, z_add, z_sub, z_mul, z_neg, z_nI, z_cl, z_sg, z_255, z_lit, Int32.reduceToInt] <;> omega))) ⟨97, h14, by show vp_in _ (fN _ 95); rw [l95]; exact vp_in_nI (by omega) (by decide), ?_⟩
      have e6 : rL y (stC 97 19) (nI (d + k)) = fL y 95 (d + k) := rL_nI (by omega)
      rw [e6]
      have tk : (W.take (k + 1)).any (fun w => hld op (cmpV ty w l)) = hld op (cmpV ty (pvd W k) l) := by
        have : W.take (k + 1) = W.take k ++ [pvd W k] := by
          rw [List.take_succ_eq_append_getElem kW]
          congr 1
          unfold pvd
          rw [List.getD_eq_getElem?_getD, List.getElem?_eq_getElem kW]
          rfl
        rw [this, List.any_append, no, Bool.false_or]
        show (_ || false) = _
        rw [Bool.or_false]
      refine c_compare2 (r := 82) t4 ((q4 k kW).c hL hb) hl (k_holds h ?_)
      by_cases z : hld op (cmpV ty (pvd W k) l) = true
      · rw [if_pos z]
        have : W.any (fun w => hld op (cmpV ty w l)) = true := by
          refine List.any_eq_true.mpr ⟨pvd W k, ?_, z⟩
          unfold pvd
          exact mem_gD kW
        rw [if_pos this] at p
        exact br_f (by decide) p
      · rw [if_neg z]
        refine br_t rfl ?_
        rw [nI_1]
        refine ih _ _ _ _ _ _ _ _ _ _ _ ⟨rfl, rfl, rfl, rfl, rfl, rfl, rfl, rfl, rfl, k + 1, kW, by rw [Nat.add_assoc], by rw [tk]; exact Bool.not_eq_true _ |>.mp z⟩ ?_
        rw [nI_clamp (by omega), nI_clamp (by omega)]
        omega
theorem k_canL {post : Int32 → St → Prop} {τ : Tl} {a m : Nat} (A : AnC x o qo F G K CK b dE Q) (hf : colF F f) (hs : s < 64) (e8 : fA x (qo + 8) s = nI m) (e7 : fA x (qo + 7) s = nI a) (ham : a + m ≤ Q.2.2.2.length) (hlt : ∀ i, a ≤ i → i < a + m → litC (fTy F f) (Q.2.2.2.getD i lt0)) (hτ : TlC x b (tOf F (nI f)) t τ) (nτ : τ.2.1 < τ.1) (p : post (if (List.range m).any (fun i => canC (tOf F (nI f)) 0 τ (lvl (Q.2.2.2.getD (a + i) lt0))) = true then 1 else 0) x) : wp_Ans_canBeListed post o (nI s) (nI (tOf F (nI f))) (nI t) x := by
  have R := A.1
  have h15 := A.2.2.2.2.1
  obtain ⟨-, -, -, -, -, -, c11, c12, c14, c16⟩ := stq A.2.2.1
  obtain ⟨-, -, -, -, -, -, n7, n8, n9, n10⟩ := A.2.2.1.len R.1
  have l64 := A.2.2.2.2.2.1.2.2.2.2.1
  unfold wp_Ans_canBeListed
  refine lp_Ans_canBeListed_3 (fun b0 b1 b2 b3 b5 y => y = x ∧ b0 = o ∧ nI s = b1 ∧ nI (tOf F (nI f)) = b2 ∧ nI t = b3 ∧ ∃ k, k ≤ m ∧ nI k = b5 ∧ (List.range k).any (fun i => canC (tOf F (nI f)) 0 τ (lvl (Q.2.2.2.getD (a + i) lt0))) = false) (fun _ _ _ _ b5 _ => m - b5.toNatClampNeg) ?_ _ _ _ _ _ _ ⟨rfl, rfl, rfl, rfl, rfl, 0, Nat.zero_le _, rfl, rfl⟩
  rintro R2 b0 b1 b2 b3 b5 y ⟨rfl, rfl, rfl, rfl, rfl, k, hk, rfl, no⟩ ih
  unfold j_Ans_canBeListed_3
  refine ⟨qo, h15, ?_⟩
  rw [c12, n8, rA_nI (by omega), e8]
  refine ⟨vp_in_nI hs (by decide), ?_⟩
  by_cases c : k = m
  · subst c
    rw [no] at p
    exact br_t (by (first | omega | (simp (disch := omega) only [Int32.le_iff_toInt_le, Int32.lt_iff_toInt_lt, z_eq, z_in, nI_toInt, z_cl, z_m1, z_sg, z_255, Int32.reduceToInt] <;> omega) | (simp only [Int32.le_iff_toInt_le, Int32.lt_iff_toInt_lt, z_eq, z_in, z_add, z_sub, z_mul, z_neg, z_nI, z_cl, z_sg, z_255, z_lit, Int32.reduceToInt] <;> omega))) p
  · have km : k < m := by omega
    refine br_f (by (first | omega | (simp (disch := omega) only [Int32.le_iff_toInt_le, Int32.lt_iff_toInt_lt, z_eq, z_in, nI_toInt, z_cl, z_m1, z_sg, z_255, Int32.reduceToInt] <;> omega) | (simp only [Int32.le_iff_toInt_le, Int32.lt_iff_toInt_lt, z_eq, z_in, z_add, z_sub, z_mul, z_neg, z_nI, z_cl, z_sg, z_255, z_lit, Int32.reduceToInt] <;> omega))) ⟨qo, h15, qo, h15, ?_⟩
    rw [c11, n7, c14, n9, rA_nI (by omega), e7, nI_add, rL_nI (by omega)]
    refine ⟨vp_in_nI hs (by decide), vp_in_nI (by omega) (by decide), ?_⟩
    have st : (List.range (k + 1)).any (fun i => canC (tOf F (nI f)) 0 τ (lvl (Q.2.2.2.getD (a + i) lt0))) = canC (tOf F (nI f)) 0 τ (lvl (Q.2.2.2.getD (a + k) lt0)) := by
      rw [List.range_succ, List.any_append, no, Bool.false_or]
      show (_ || false) = _
      rw [Bool.or_false]
    refine k_canBe (op := 0) A (by decide) hf hτ nτ (A.lit hf (by omega) (hlt (a + k) (by omega) (by omega))) ?_
    by_cases z : canC (tOf F (nI f)) 0 τ (lvl (Q.2.2.2.getD (a + k) lt0)) = true
    · rw [if_pos z]
      have : (List.range m).any (fun i => canC (tOf F (nI f)) 0 τ (lvl (Q.2.2.2.getD (a + i) lt0))) = true := List.any_eq_true.mpr ⟨k, List.mem_range.mpr km, z⟩
      rw [if_pos this] at p
      exact br_f (by decide) p
    · rw [if_neg z]
      refine br_t rfl ?_
      rw [nI_1]
      refine ih _ _ _ _ _ _ ⟨rfl, rfl, rfl, rfl, rfl, k + 1, km, rfl, by rw [st]; exact Bool.not_eq_true _ |>.mp z⟩ ?_
      rw [nI_clamp (by omega), nI_clamp (by omega)]
      omega
theorem k_canU {post : Int32 → St → Prop} {τ : Tl} {a m : Nat} (A : AnC x o qo F G K CK b dE Q) (hf : colF F f) (hs : s < 64) (e8 : fA x (qo + 8) s = nI m) (e7 : fA x (qo + 7) s = nI a) (ham : a + m ≤ Q.2.2.2.length) (hlt : ∀ i, a ≤ i → i < a + m → litC (fTy F f) (Q.2.2.2.getD i lt0)) (hτ : TlC x b (tOf F (nI f)) t τ) (nτ : τ.2.1 < τ.1)
    (p : post (if (if τ.2.2.2.2 = [] then decide (¬ cmpV (tOf F (nI f)) τ.2.2.1 τ.2.2.2.1 = 0) || !isL Q.2.2.2 (tOf F (nI f)) a m τ.2.2.1 else τ.2.2.2.2.any (fun w => !isL Q.2.2.2 (tOf F (nI f)) a m w)) = true then 1 else 0) x) : wp_Ans_canBeUnlisted post o (nI s) (nI (tOf F (nI f))) (nI t) x := by
  have h14 := A.2.2.2.1
  have hL := A.1.1
  have hb := A.1.bb
  obtain ⟨-, t4, tE⟩ := tOf_n A.1.2.2.1.2.1 hf
  obtain ⟨t1, -, -, -, -, t2⟩ := hτ
  obtain ⟨ta, tb, tc⟩ := t2 nτ
  have vt : vp_in (nI t) 6000 := vp_in_nI t1 (by decide)
  have e1 : rL x (stC 97 16) (nI t) = fL x 92 t := rL_nI (by omega)
  have e3 : rL x (stC 97 17) (nI t) = fL x 93 t := rL_nI (by omega)
  have e5 : rA x (stC 97 18) (nI t) = fA x 94 t := rA_nI (by omega)
  have l92 : fN x 92 = 6000 := hL 92 (by decide)
  have l93 : fN x 93 = 6000 := hL 93 (by decide)
  have l94 : fN x 94 = 6000 := hL 94 (by decide)
  have l95 : fN x 95 = 11000 := hL 95 (by decide)
  unfold wp_Ans_canBeUnlisted
  refine ⟨97, h14, by show vp_in _ (fN x 94); rw [l94]; exact vt, nm_e ?_⟩
  rw [e5]
  rcases tc with ⟨q1, q2⟩ | ⟨q0, d, q1, q2, q3, q4⟩
  · rw [if_pos q2] at p
    refine bn_t q1 ⟨97, h14, by show vp_in _ (fN x 92); rw [l92]; exact vt, nm_e ⟨97, h14, 97, h14, by show vp_in _ (fN x 93); rw [l93]; exact vt, ?_⟩⟩
    rw [e1, e3]
    refine k_cmp hL hb t4 ta tb ?_
    by_cases z : cmpV (tOf F (nI f)) τ.2.2.1 τ.2.2.2.1 = 0
    · rw [decide_eq_false (fun w => w z), Bool.false_or] at p
      refine bn_t z (k_isListed A hf hs e8 e7 ham hlt (ta.c hL hb) ?_)
      cases e : isL Q.2.2.2 (tOf F (nI f)) a m τ.2.2.1 with
      | true =>
        rw [e] at p
        exact bn_f (by decide) p
      | false =>
        rw [e] at p
        exact bn_t rfl p
    · rw [decide_eq_true z, Bool.true_or] at p
      exact bn_f z p
  · rw [if_neg q0] at p
    obtain ⟨i1, i2⟩ := dic_i (d := d) (n := τ.2.2.2.2.length) (by omega) q3
    generalize hW : τ.2.2.2.2 = W at *
    rw [q1]
    refine bn_f (nI_nm1 (by omega)) (nm_r (e' := nI d) i1 ?_)
    refine lp_Ans_canBeUnlisted_79 (fun b0 b1 b2 b3 b4 b5 b6 y => y = x ∧ b0 = o ∧ nI s = b1 ∧ nI (tOf F (nI f)) = b2 ∧ nI (d * 128 + W.length) = b4 ∧ nI d = b5 ∧ ∃ k, k ≤ W.length ∧ nI (d + k) = b6 ∧ (W.take k).any (fun w => !isL Q.2.2.2 (tOf F (nI f)) a m w) = false) (fun _ _ _ _ _ _ b6 _ => d + W.length - b6.toNatClampNeg) ?_ _ _ _ _ _ _ _ _ ⟨rfl, rfl, rfl, rfl, rfl, rfl, 0, Nat.zero_le _, rfl, rfl⟩
    rintro R b0 b1 b2 b3 b4 b5 b6 y ⟨rfl, rfl, rfl, rfl, rfl, rfl, k, hk, rfl, no⟩ ih
    unfold j_Ans_canBeUnlisted_79
    rw [i2]
    by_cases c : k = W.length
    · subst c
      rw [List.take_length] at no
      rw [no] at p
      exact br_t (by (first | omega | (simp (disch := omega) only [Int32.le_iff_toInt_le, Int32.lt_iff_toInt_lt, z_eq, z_in, nI_toInt, z_cl, z_m1, z_sg, z_255, Int32.reduceToInt] <;> omega) | (simp only [Int32.le_iff_toInt_le, Int32.lt_iff_toInt_lt, z_eq, z_in, z_add, z_sub, z_mul, z_neg, z_nI, z_cl, z_sg, z_255, z_lit, Int32.reduceToInt] <;> omega))) p
    · have kW : k < W.length := by omega
      refine br_f (by (first | omega | (simp (disch := omega) only [Int32.le_iff_toInt_le, Int32.lt_iff_toInt_lt, z_eq, z_in, nI_toInt, z_cl, z_m1, z_sg, z_255, Int32.reduceToInt] <;> omega) | (simp only [Int32.le_iff_toInt_le, Int32.lt_iff_toInt_lt, z_eq, z_in, z_add, z_sub, z_mul, z_neg, z_nI, z_cl, z_sg, z_255, z_lit, Int32.reduceToInt] <;> omega))) ⟨97, h14, by show vp_in _ (fN _ 95); rw [l95]; exact vp_in_nI (by omega) (by decide), ?_⟩
      have e6 : rL y (stC 97 19) (nI (d + k)) = fL y 95 (d + k) := rL_nI (by omega)
      rw [e6]
      have tk : (W.take (k + 1)).any (fun w => !isL Q.2.2.2 (tOf F (nI f)) a m w) = !isL Q.2.2.2 (tOf F (nI f)) a m (pvd W k) := by
        have : W.take (k + 1) = W.take k ++ [pvd W k] := by
          rw [List.take_succ_eq_append_getElem kW]
          congr 1
          unfold pvd
          rw [List.getD_eq_getElem?_getD, List.getElem?_eq_getElem kW]
          rfl
        rw [this, List.any_append, no, Bool.false_or]
        show (_ || false) = _
        rw [Bool.or_false]
      refine k_isListed A hf hs e8 e7 ham hlt ((q4 k kW).c hL hb) ?_
      cases z : isL Q.2.2.2 (tOf F (nI f)) a m (pvd W k) with
      | false =>
        have : W.any (fun w => !isL Q.2.2.2 (tOf F (nI f)) a m w) = true := by
          refine List.any_eq_true.mpr ⟨pvd W k, ?_, ?_⟩
          · unfold pvd
            exact mem_gD kW
          · rw [z]; rfl
        rw [if_pos this] at p
        exact bn_t rfl p
      | true =>
        refine bn_f (by decide) ?_
        rw [nI_1]
        refine ih _ _ _ _ _ _ _ _ ⟨rfl, rfl, rfl, rfl, rfl, rfl, k + 1, kW, by rw [Nat.add_assoc], by rw [tk, z]; rfl⟩ ?_
        rw [nI_clamp (by omega), nI_clamp (by omega)]
        omega
end
