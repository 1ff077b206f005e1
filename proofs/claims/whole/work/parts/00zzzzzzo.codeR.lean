/-! a CODE, class -/
abbrev FrSB (o r : Nat) (x y : St) : Prop := Fg (fun a k => a = o ∧ (k = 1 ∨ k = 3)) no2 no2 (fun a => a = o + 1) (fun a => a = r) x y
abbrev FrSW (o : Nat) (x y : St) : Prop := Fg (fun a k => a = o ∧ (k = 1 ∨ k = 3)) no2 no2 (fun a => a = o + 1) no1 x y
theorem Fg.len {x y : St} {I J R : Nat → Nat → Prop} {A L : Nat → Prop} (f : Fg I J R A L x y) (r : Nat) : fN y r = fN x r := by show y.2.2.2.2.2 r = _; rw [f.2.2.2.2.2]
theorem Fg.ll {x y : St} {I J R : Nat → Nat → Prop} {A L : Nat → Prop} (f : Fg I J R A L x y) {r : Nat} (h : ¬ L r) : fL y r = fL x r := f.2.2.2.2.1 r h
theorem Fg.aa {x y : St} {I J R : Nat → Nat → Prop} {A L : Nat → Prop} (f : Fg I J R A L x y) {r : Nat} (h : ¬ A r) : fA y r = fA x r := f.2.2.2.1 r h
theorem Fg.ii {x y : St} {I J R : Nat → Nat → Prop} {A L : Nat → Prop} (f : Fg I J R A L x y) {a k : Nat} (h : ¬ I a k) : fI y a k = fI x a k := f.1 a k h
section
variable {x : St} {T : Nat → Nat} {n st p o : Nat}
theorem FrSr.w {y : St} (f : FrSr o x y) : FrSW o x y := f.mono (fun _ _ z => z) (fun _ _ z => z) (fun _ _ z => z) (fun _ z => z.elim) (fun _ z => z)
theorem FrSW.b {r : Nat} {y : St} (f : FrSW o x y) : FrSB o r x y := f.mono (fun _ _ z => z) (fun _ _ z => z) (fun _ _ z => z) (fun _ z => z) (fun _ z => z.elim)
theorem FrSr.b {r : Nat} {y : St} (f : FrSr o x y) : FrSB o r x y := f.w.b
theorem SrO.l4 (ho : SrO o) (h : LC x) : fN x (o + 1) = 4 := by rcases ho with rfl | rfl <;> exact h _ (by decide)
theorem SrO.n82 (ho : SrO o) : ¬ 82 = o + 1 := by rcases ho with rfl | rfl <;> decide
def WdS (x : St) (o : Nat) (T : Nat → Nat) (q m : Nat) : Prop := ∀ j, j < m → fA x (o + 1) j = nI (T (q + j))
theorem k_part {post : St → Prop} {rec75 : Nat → Nat → Int32 → Int32 → Int64 → Int32 → St → Prop} {r first last i w q : Nat} {least : Int64} {acc : List Int64} (ho : SrO o) (S : Sr o x T n p st) (hw : w ≤ 64) (hi : i < 4) (hf : first ≤ 2000) (hlast : last ≤ first + 64) (hr : last + 1 ≤ fN x r) (hr2 : fN x r ≤ 2 ^ 20) (hpw : p + 2 * w ≤ st) (hw0 : last ≤ first + 16 * i → w = 0) (hacc : last ≤ first + 16 * i ∨ acc.length = 1 + (first + 16 * i)) (hc : ∀ j, j < acc.length → fL x r j = acc.getD j 0) (hW : WdS x o T q 4)
    (pe : ∀ y, (∃ k, k < 16 ∧ last ≤ first + 16 * i + k ∧ bsN T p (w * k) w ≠ 0) → FrSB o r x y → FlC o y 5 → rec75 o r (nI (first + 1)) (nI (last + 1)) least (nI (i + 1)) y)
    (pk : ∀ y, (¬ ∃ k, k < 16 ∧ last ≤ first + 16 * i + k ∧ bsN T p (w * k) w ≠ 0) → FrSB o r x y → Sr o y T n (p + 2 * w) st → WdS y o T q 4 → (∀ j, j < (exL T p w least (min 16 (last - (first + 16 * i))) acc).length → fL y r j = (exL T p w least (min 16 (last - (first + 16 * i))) acc).getD j 0) → rec75 o r (nI (first + 1)) (nI (last + 1)) least (nI (i + 1)) y) :
    ∃ nn : Nat, wl_Src_readBlock_115 post rec75 nn o r (nI (first + 1)) (nI (last + 1)) least (nI i) (nI w) (nI (first + 1 + 16 * i)) 0 x := by
  have hS := S.le
  refine lp_Src_readBlock_115 (fun a0 a1 a2 a3 a4 a5 a6 a7 a8 y => o = a0 ∧ r = a1 ∧ nI (first + 1) = a2 ∧ nI (last + 1) = a3 ∧ least = a4 ∧ nI i = a5 ∧ nI w = a6 ∧ nI (first + 1 + 16 * i) = a7 ∧ ∃ c, nI c = a8 ∧ c ≤ 16 ∧ FrSL o r x y ∧ fI y o 1 = nI p ∧ (fI y o 3 = 0 ∧ ¬ exP T p w (first + 16 * i) last (c) ∨ FlC o y 5 ∧ exP T p w (first + 16 * i) last (c)) ∧ ∀ j, j < (exL T p w least (min c (last - (first + 16 * i))) acc).length → fL y r j = (exL T p w least (min c (last - (first + 16 * i))) acc).getD j 0) (fun _ _ _ _ _ _ _ _ a8 _ => 16 - a8.toNatClampNeg) ?_ _ _ _ _ _ _ _ _ _ _ ⟨rfl, rfl, rfl, rfl, rfl, rfl, rfl, rfl, 0, rfl, Nat.zero_le _, Fg.refl x, S.hp, Or.inl ⟨S.h0, fun z => by obtain ⟨k, k1, -⟩ := z; omega⟩, by rw [Nat.zero_min]; exact hc⟩
  rintro Q a0 a1 a2 a3 a4 a5 a6 a7 a8 y ⟨rfl, rfl, rfl, rfl, rfl, rfl, rfl, rfl, c, rfl, c1, y1, y2, y3, y4⟩ ih
  have Fy := Fg.fic y1 id S.1
  have nr := y1.len r
  unfold j_Src_readBlock_115
  by_cases cc : c < 16
  · refine br_f (by (first | omega | (simp (disch := omega) only [Int32.le_iff_toInt_le, Int32.lt_iff_toInt_lt, z_eq, z_in, nI_toInt, z_cl, z_m1, z_sg, z_255, Int32.reduceToInt] <;> omega) | (simp only [Int32.le_iff_toInt_le, Int32.lt_iff_toInt_lt, z_eq, z_in, z_add, z_sub, z_mul, z_neg, z_nI, z_cl, z_sg, z_255, z_lit, Int32.reduceToInt] <;> omega))) ?_
    rw [nI_mul, Nat.mul_comm c w, nI_add]
    have wc : w * c ≤ 64 * c := Nat.mul_le_mul_right _ hw
    have wb : w * c + w ≤ 8 * (2 * w) := by
      have : (c + 1) * w ≤ 16 * w := Nat.mul_le_mul_right _ cc
      rw [Nat.succ_mul, Nat.mul_comm c w] at this
      omega
    refine k_bitsAt ho Fy y2 hw (by omega) (by omega) (fun j hj => ?_) ?_
    · have : (w * c + j) / 8 < 2 * w := Nat.div_lt_of_lt_mul (by omega)
      omega
    · have nx : ∀ z, FrSL o r x z → fI z o 1 = nI p → (fI z o 3 = 0 ∧ ¬ exP T p w (first + 16 * i) last (c + 1) ∨ FlC o z 5 ∧ exP T p w (first + 16 * i) last (c + 1)) → (∀ j, j < (exL T p w least (min (c + 1) (last - (first + 16 * i))) acc).length → fL z r j = (exL T p w least (min (c + 1) (last - (first + 16 * i))) acc).getD j 0) → j_Src_readBlock_186 post rec75 Q o r (nI (first + 1)) (nI (last + 1)) least (nI i) (nI w) (nI (first + 1 + 16 * i)) (nI c) (lN (bsN T p (w * c) w)) z := fun z z1 z2 z3 z4 => by
        unfold j_Src_readBlock_186
        rw [nI_1]
        exact ih _ _ _ _ _ _ _ _ _ _ ⟨rfl, rfl, rfl, rfl, rfl, rfl, rfl, rfl, c + 1, rfl, cc, z1, z2, z3, z4⟩ (by rw [nI_clamp (by omega), nI_clamp (by omega)]; omega)
      have keep3 : (last ≤ first + 16 * i + c → bsN T p (w * c) w = 0) → (fI y o 3 = 0 ∧ ¬ exP T p w (first + 16 * i) last (c + 1) ∨ FlC o y 5 ∧ exP T p w (first + 16 * i) last (c + 1)) := fun hz => by
        rcases y3 with ⟨q1, q2⟩ | ⟨q1, j, q2, q3, q4⟩
        · refine Or.inl ⟨q1, fun z => ?_⟩
          obtain ⟨j, j1, j2, j3⟩ := z
          by_cases ej : j = c
          · rw [ej] at j2 j3; exact j3 (hz j2)
          · exact q2 ⟨j, by omega, j2, j3⟩
        · exact Or.inr ⟨q1, j, by omega, q3, q4⟩
      have bl := bsN_lt (T := T) (p := p) (m := w * c) w
      have b64 : 2 ^ w ≤ 2 ^ 64 := Nat.pow_le_pow_right (by decide) hw
      by_cases cm : last ≤ first + 16 * i + c
      · refine br_t (by (first | omega | (simp (disch := omega) only [Int32.le_iff_toInt_le, Int32.lt_iff_toInt_lt, z_eq, z_in, nI_toInt, z_cl, z_m1, z_sg, z_255, Int32.reduceToInt] <;> omega) | (simp only [Int32.le_iff_toInt_le, Int32.lt_iff_toInt_lt, z_eq, z_in, z_add, z_sub, z_mul, z_neg, z_nI, z_cl, z_sg, z_255, z_lit, Int32.reduceToInt] <;> omega))) ?_
        have same : ∀ j, j < (exL T p w least (min (c + 1) (last - (first + 16 * i))) acc).length → fL y r j = (exL T p w least (min (c + 1) (last - (first + 16 * i))) acc).getD j 0 := by
          rw [show min (c + 1) (last - (first + 16 * i)) = min c (last - (first + 16 * i)) by omega]
          exact y4
        unfold j_Src_readBlock_182
        by_cases cz : bsN T p (w * c) w = 0
        · refine bn_t ((lg_cmp_eq _ _).mpr (by rw [cz]; rfl)) (k_ck1 (nx y y1 y2 (keep3 (fun _ => cz)) same))
        · refine bn_f (fun z => cz ((lN0 (by omega)).mp ((lg_cmp_eq _ _).mp z))) ?_
          rcases y3 with ⟨q1, q2⟩ | ⟨q1, q2⟩
          · refine k_ck0 q1 (nx _ (Fg.trans y1 (Fg.i ⟨rfl, by decide⟩)) ((gI_ne (by decide)).trans y2) (Or.inr ⟨⟨gI_at, by decide, by decide⟩, c, by omega, by omega, cz⟩) same)
          · exact k_ckf q1.ne (nx y y1 y2 (Or.inr ⟨q1, c, by omega, by omega, cz⟩) same)
      · have ea : acc.length = 1 + (first + 16 * i) := by omega
        rw [show min c (last - (first + 16 * i)) = c by omega] at y4
        have el := exL_len (T := T) (p := p) (w := w) (least := least) (acc := acc) c
        rw [show (1 : Int32) = nI 1 from rfl, nI_sub (by omega)]
        refine br_f (by (first | omega | (simp (disch := omega) only [Int32.le_iff_toInt_le, Int32.lt_iff_toInt_lt, z_eq, z_in, nI_toInt, z_cl, z_m1, z_sg, z_255, Int32.reduceToInt] <;> omega) | (simp only [Int32.le_iff_toInt_le, Int32.lt_iff_toInt_lt, z_eq, z_in, z_add, z_sub, z_mul, z_neg, z_nI, z_cl, z_sg, z_255, z_lit, Int32.reduceToInt] <;> omega))) ⟨vp_in_nI (by omega) (by omega), vp_in_nI (by omega) (by omega), nm_e ?_⟩
        refine nx _ (Fg.trans y1 (Fg.l rfl)) y2 (keep3 (fun z => by omega)) ?_
        rw [show min (c + 1) (last - (first + 16 * i)) = c + 1 by omega]
        intro j hj
        rw [exL_len] at hj
        rw [rL_nI (by omega), gL_at, nI_clamp (by omega)]
        show _ = (exL T p w least c acc ++ [_]).getD j 0
        by_cases e : j = first + 1 + 16 * i + c
        · rw [e, updL_at, show first + 1 + 16 * i + c = (exL T p w least c acc).length by omega, getD_l2, last_getD (by omega), y4 _ (by omega)]
        · rw [updL_ne e, getD_l1 (by omega), y4 j (by omega)]
  · have e : c = 16 := by omega
    subst e
    refine br_t (by decide) ?_
    rw [show (2 : Int32) * nI w = nI (2 * w) from by rw [show (2 : Int32) = nI 2 from rfl, nI_mul], y2, nI_add, nI_1]
    refine nm_e ?_
    have fz : FrSL o r x (setI y o 1 (nI (p + 2 * w))) := Fg.trans y1 (Fg.i ⟨rfl, by decide⟩)
    have fb : FrSB o r x (setI y o 1 (nI (p + 2 * w))) := fz.mono (fun _ _ z => z) (fun _ _ z => z) (fun _ _ z => z) (fun _ z => z.elim) (fun _ z => z)
    rcases y3 with ⟨q1, q2⟩ | ⟨q1, q2⟩
    · refine pk _ q2 fb (S.mv fz id (fun z => absurd z.2 (by decide)) gI_at ((gI_ne (by decide)).trans q1) (by omega)) (fun j hj => ?_) y4
      rw [fz.aa id]
      exact hW j hj
    · exact pe _ q2 fb ⟨(gI_ne (by decide)).trans q1.1, q1.2⟩
theorem k_blk {post : St → Prop} {r first last : Nat} {acc : List Int64} (ho : SrO o) (S : Sr o x T n p st) (hf : first ≤ 2000) (hfl : first < last) (hlast : last ≤ first + 64) (hr : last + 1 ≤ fN x r) (hr2 : fN x r ≤ 2 ^ 20) (hacc : acc.length = first + 1) (hc : ∀ j, j < acc.length → fL x r j = acc.getD j 0)
    (pe : ∀ e y, blkR T st first last acc p = .error e → FrSB o r x y → FlC o y e → post y)
    (pk : ∀ L q y, blkR T st first last acc p = .ok (L, q) → FrSB o r x y → Sr o y T n q st → (∀ j, j < L.length → fL y r j = L.getD j 0) → post y) : wp_Src_readBlock post o r (nI (first + 1)) (nI (last + 1)) x := by
  have hS := S.le
  unfold wp_Src_readBlock
  -- the loop over the parts, in a fault
  have f75 : ∀ (R : Nat → Nat → Int32 → Int32 → Int64 → Int32 → St → Prop) (l4 : Int64) (y : St) (e i : Nat), i ≤ 4 → FrSB o r x y → FlC o y e → blkR T st first last acc p = .error e → j_Src_readBlock_75 post R o r (nI (first + 1)) (nI (last + 1)) l4 (nI i) y := fun R l4 y e i hi y1 y2 y3 => by
    unfold j_Src_readBlock_75
    refine ⟨fun _ => pe e y y3 y1 y2, fun z => ⟨?_, fun v10 _ v11 _ => k_has0 y2.ne ⟨fun w => absurd rfl w, fun _ => pe e y y3 y1 y2⟩⟩⟩
    rw [ho.st4, ho.l4 (Fg.fic y1 ho.n82 S.1).1]
    refine vp_in_nI ?_ (by decide)
    have : ¬ 4 ≤ i := fun w => z (by (first | omega | (simp (disch := omega) only [Int32.le_iff_toInt_le, Int32.lt_iff_toInt_lt, z_eq, z_in, nI_toInt, z_cl, z_m1, z_sg, z_255, Int32.reduceToInt] <;> omega) | (simp only [Int32.le_iff_toInt_le, Int32.lt_iff_toInt_lt, z_eq, z_in, z_add, z_sub, z_mul, z_neg, z_nI, z_cl, z_sg, z_255, z_lit, Int32.reduceToInt] <;> omega)))
    omega
  -- the widths, in a fault
  have f12 : ∀ (l4 : Int64) (y : St) (e i : Nat), i ≤ 4 → FrSW o x y → FlC o y e → blkR T st first last acc p = .error e → ∃ nn, wl_Src_readBlock_12 post nn o r (nI (first + 1)) (nI (last + 1)) l4 (nI i) y := fun l4 y e i hi y1 y2 y3 => by
    refine lp_Src_readBlock_12 (fun a0 a1 a2 a3 a4 a5 z => o = a0 ∧ r = a1 ∧ nI (first + 1) = a2 ∧ nI (last + 1) = a3 ∧ FrSW o x z ∧ FlC o z e ∧ ∃ i, nI i = a5 ∧ i ≤ 4) (fun _ _ _ _ _ a5 _ => 4 - a5.toNatClampNeg) ?_ _ _ _ _ _ _ _ ⟨rfl, rfl, rfl, rfl, y1, y2, i, rfl, hi⟩
    rintro Q a0 a1 a2 a3 a4 a5 z ⟨rfl, rfl, rfl, rfl, z1, z2, i, rfl, i1⟩ ih
    unfold j_Src_readBlock_12
    by_cases ci : i < 4
    · refine br_f (by (first | omega | (simp (disch := omega) only [Int32.le_iff_toInt_le, Int32.lt_iff_toInt_lt, z_eq, z_in, nI_toInt, z_cl, z_m1, z_sg, z_255, Int32.reduceToInt] <;> omega) | (simp only [Int32.le_iff_toInt_le, Int32.lt_iff_toInt_lt, z_eq, z_in, z_add, z_sub, z_mul, z_neg, z_nI, z_cl, z_sg, z_255, z_lit, Int32.reduceToInt] <;> omega))) (k_byte0 z2.ne (br_f (by decide) (br_t rfl ?_)))
      unfold j_Src_readBlock_48 j_Src_readBlock_53
      refine k_ck1 ⟨?_, nm_e ?_⟩
      · rw [ho.st4, ho.l4 (Fg.fic z1 ho.n82 S.1).1]
        exact vp_in_nI (by omega) (by decide)
      · rw [nI_1, ho.st4]
        exact ih _ _ _ _ _ _ _ ⟨rfl, rfl, rfl, rfl, Fg.trans z1 (Fg.a rfl), z2, i + 1, rfl, ci⟩ (by rw [nI_clamp (by omega), nI_clamp (by omega)]; omega)
    · refine br_t (by (first | omega | (simp (disch := omega) only [Int32.le_iff_toInt_le, Int32.lt_iff_toInt_lt, z_eq, z_in, nI_toInt, z_cl, z_m1, z_sg, z_255, Int32.reduceToInt] <;> omega) | (simp only [Int32.le_iff_toInt_le, Int32.lt_iff_toInt_lt, z_eq, z_in, z_add, z_sub, z_mul, z_neg, z_nI, z_cl, z_sg, z_255, z_lit, Int32.reduceToInt] <;> omega))) ⟨1, ?_⟩
      unfold wl_Src_readBlock_75
      exact f75 _ a4 z e 0 (by decide) (FrSW.b z1) z2 y3
  refine r_vrd ho S (fun e y y1 y2 y3 => ?_) (fun v q y y1 y2 Sy v1 v2 => ?_)
  · refine k_uz (v := 0) (by decide) ?_
    exact f12 _ y e 0 (by decide) (FrSr.w y2) y3 (by unfold blkR; rw [y1])
  · refine k_uz v1 ?_
    have hSy := Sy.le
    have eb : blkR T st first last acc p = (match wdF T st first last 4 0 q with | .error e => .error e | .ok (_, q2) => ptF T st first last q (uz v) 4 0 acc q2) := by unfold blkR; rw [y1]; rfl
    refine lp_Src_readBlock_12 (fun a0 a1 a2 a3 a4 a5 z => o = a0 ∧ r = a1 ∧ nI (first + 1) = a2 ∧ nI (last + 1) = a3 ∧ uz v = a4 ∧ FrSW o x z ∧ ∃ i, nI i = a5 ∧ i ≤ 4 ∧ ((∃ e, FlC o z e ∧ blkR T st first last acc p = .error e) ∨ Sr o z T n (q + i) st ∧ WdS z o T q i ∧ wdF T st first last 4 0 q = wdF T st first last (4 - i) i (q + i))) (fun _ _ _ _ _ a5 _ => 4 - a5.toNatClampNeg) ?_ _ _ _ _ _ _ _ ⟨rfl, rfl, rfl, rfl, rfl, FrSr.w y2, 0, rfl, by decide, Or.inr ⟨Sy, fun j hj => absurd hj (Nat.not_lt_zero _), rfl⟩⟩
    rintro Q a0 a1 a2 a3 a4 a5 z ⟨rfl, rfl, rfl, rfl, rfl, z1, i, rfl, i1, z2⟩ ih
    have Lz := (Fg.fic z1 ho.n82 S.1).1
    unfold j_Src_readBlock_12
    rcases z2 with ⟨e, z3, z4⟩ | ⟨Sz, z3, z4⟩
    · by_cases ci : i < 4
      · refine br_f (by (first | omega | (simp (disch := omega) only [Int32.le_iff_toInt_le, Int32.lt_iff_toInt_lt, z_eq, z_in, nI_toInt, z_cl, z_m1, z_sg, z_255, Int32.reduceToInt] <;> omega) | (simp only [Int32.le_iff_toInt_le, Int32.lt_iff_toInt_lt, z_eq, z_in, z_add, z_sub, z_mul, z_neg, z_nI, z_cl, z_sg, z_255, z_lit, Int32.reduceToInt] <;> omega))) (k_byte0 z3.ne (br_f (by decide) (br_t rfl ?_)))
        unfold j_Src_readBlock_48 j_Src_readBlock_53
        refine k_ck1 ⟨?_, nm_e ?_⟩
        · rw [ho.st4, ho.l4 Lz]
          exact vp_in_nI (by omega) (by decide)
        · rw [nI_1, ho.st4]
          exact ih _ _ _ _ _ _ _ ⟨rfl, rfl, rfl, rfl, rfl, Fg.trans z1 (Fg.a rfl), i + 1, rfl, ci, Or.inl ⟨e, z3, z4⟩⟩ (by rw [nI_clamp (by omega), nI_clamp (by omega)]; omega)
      · refine br_t (by (first | omega | (simp (disch := omega) only [Int32.le_iff_toInt_le, Int32.lt_iff_toInt_lt, z_eq, z_in, nI_toInt, z_cl, z_m1, z_sg, z_255, Int32.reduceToInt] <;> omega) | (simp only [Int32.le_iff_toInt_le, Int32.lt_iff_toInt_lt, z_eq, z_in, z_add, z_sub, z_mul, z_neg, z_nI, z_cl, z_sg, z_255, z_lit, Int32.reduceToInt] <;> omega))) ⟨1, ?_⟩
        unfold wl_Src_readBlock_75
        exact f75 _ _ z e 0 (by decide) (FrSW.b z1) z3 z4
    · by_cases ci : i < 4
      · refine br_f (by (first | omega | (simp (disch := omega) only [Int32.le_iff_toInt_le, Int32.lt_iff_toInt_lt, z_eq, z_in, nI_toInt, z_cl, z_m1, z_sg, z_255, Int32.reduceToInt] <;> omega) | (simp only [Int32.le_iff_toInt_le, Int32.lt_iff_toInt_lt, z_eq, z_in, z_add, z_sub, z_mul, z_neg, z_nI, z_cl, z_sg, z_255, z_lit, Int32.reduceToInt] <;> omega))) ?_
        obtain ⟨d, hd⟩ : ∃ d, 4 - i = d + 1 := ⟨3 - i, by omega⟩
        have ew : wdF T st first last 4 0 q = (if st ≤ q + i then .error 1 else if 64 < T (q + i) ∨ 0 < T (q + i) ∧ last ≤ first + 16 * i then .error 5 else wdF T st first last d (i + 1) (q + i + 1)) := by
          rw [z4, hd]
          rfl
        have nx : ∀ (u : St) (v7 : Int32), FrSW o x u → ((∃ e, FlC o u e ∧ blkR T st first last acc p = .error e) ∨ v7 = nI (T (q + i)) ∧ Sr o u T n (q + (i + 1)) st ∧ WdS u o T q i ∧ wdF T st first last 4 0 q = wdF T st first last (4 - (i + 1)) (i + 1) (q + (i + 1))) → (vp_in (nI i) (fN u (stC o 4)) ∧ ∀ x16 : St, x16 = setA u (stC o 4) (nI i) v7 → Q o r (nI (first + 1)) (nI (last + 1)) (uz v) (nI i + 1) x16) := fun u v7 u1 u2 => by
          refine ⟨?_, nm_e ?_⟩
          · rw [ho.st4, ho.l4 (Fg.fic u1 ho.n82 S.1).1]
            exact vp_in_nI (by omega) (by decide)
          · rw [nI_1, ho.st4]
            refine ih _ _ _ _ _ _ _ ⟨rfl, rfl, rfl, rfl, rfl, Fg.trans u1 (Fg.a rfl), i + 1, rfl, ci, ?_⟩ (by rw [nI_clamp (by omega), nI_clamp (by omega)]; omega)
            rcases u2 with u2 | ⟨w1, w2, w3, w4⟩
            · exact Or.inl u2
            · refine Or.inr ⟨w2.cg (Fg.a (A := fun a => a = o + 1) (I := no2) (J := no2) (R := no2) (L := no1) rfl) ho.n82 id id id, fun j hj => ?_, w4⟩
              rw [gA_at, nI_clamp (by omega)]
              by_cases ej : j = i
              · rw [ej, upd_at, w1]
              · rw [upd_ne ej, w3 j (by omega)]
        refine r_byte ho Sz (fun e u u1 u2 u3 => ?_) (fun u u1 u2 Su u3 => ?_)
        · have ce : e = 1 ∧ st ≤ q + i := by
            unfold fxd at u1
            by_cases c : st < q + i + 1
            · rw [if_pos c] at u1; cases u1; exact ⟨rfl, by omega⟩
            · rw [if_neg c] at u1; cases u1
          refine br_f (by decide) (br_t rfl ?_)
          unfold j_Src_readBlock_48 j_Src_readBlock_53
          refine k_ck1 (nx u 0 (Fg.trans z1 (FrSr.w u2)) (Or.inl ⟨e, u3, ?_⟩))
          rw [eb, ew, if_pos ce.2, ce.1]
        · have hT := S.t (q + i)
          rw [if_neg (by omega)] at ew
          have e16 : nI (first + 1) + 16 * nI i = nI (first + 1 + 16 * i) := by rw [show (16 : Int32) = nI 16 from rfl, nI_mul, nI_add]
          rw [e16]
          have bad : (64 < T (q + i) ∨ 0 < T (q + i) ∧ last ≤ first + 16 * i) → j_Src_readBlock_52 post Q o r (nI (first + 1)) (nI (last + 1)) (uz v) (nI i) (nI (T (q + i))) o u := fun c => by
            unfold j_Src_readBlock_52 j_Src_readBlock_53
            refine r_ck0 5 Su (by decide) (by decide) (fun u' w1 w2 => nx u' _ (Fg.trans (Fg.trans z1 (FrSr.w u2)) (FrSr.w w1)) (Or.inl ⟨5, w2, ?_⟩))
            rw [eb, ew, if_pos c]
          have good : ¬ (64 < T (q + i) ∨ 0 < T (q + i) ∧ last ≤ first + 16 * i) → j_Src_readBlock_48 post Q o r (nI (first + 1)) (nI (last + 1)) (uz v) (nI i) (nI (T (q + i))) o u := fun c => by
            unfold j_Src_readBlock_48 j_Src_readBlock_53
            refine k_ck1 (nx u _ (Fg.trans z1 (FrSr.w u2)) (Or.inr ⟨rfl, Su, fun j hj => ?_, ?_⟩))
            · rw [u2.aa id]
              exact z3 j hj
            · rw [ew, if_neg c, show 4 - (i + 1) = d by omega]
              rfl
          by_cases k1 : 64 < T (q + i)
          · exact br_t (by (first | omega | (simp (disch := omega) only [Int32.le_iff_toInt_le, Int32.lt_iff_toInt_lt, z_eq, z_in, nI_toInt, z_cl, z_m1, z_sg, z_255, Int32.reduceToInt] <;> omega) | (simp only [Int32.le_iff_toInt_le, Int32.lt_iff_toInt_lt, z_eq, z_in, z_add, z_sub, z_mul, z_neg, z_nI, z_cl, z_sg, z_255, z_lit, Int32.reduceToInt] <;> omega))) (bad (Or.inl k1))
          · refine br_f (by (first | omega | (simp (disch := omega) only [Int32.le_iff_toInt_le, Int32.lt_iff_toInt_lt, z_eq, z_in, nI_toInt, z_cl, z_m1, z_sg, z_255, Int32.reduceToInt] <;> omega) | (simp only [Int32.le_iff_toInt_le, Int32.lt_iff_toInt_lt, z_eq, z_in, z_add, z_sub, z_mul, z_neg, z_nI, z_cl, z_sg, z_255, z_lit, Int32.reduceToInt] <;> omega))) ?_
            by_cases k2 : T (q + i) = 0
            · exact br_t (by rw [k2]; rfl) (good (by omega))
            · refine br_f (fun w => k2 (nI_inj (b := 0) (by omega) (by decide) w)) ?_
              by_cases k3 : last ≤ first + 16 * i
              · exact br_t (by (first | omega | (simp (disch := omega) only [Int32.le_iff_toInt_le, Int32.lt_iff_toInt_lt, z_eq, z_in, nI_toInt, z_cl, z_m1, z_sg, z_255, Int32.reduceToInt] <;> omega) | (simp only [Int32.le_iff_toInt_le, Int32.lt_iff_toInt_lt, z_eq, z_in, z_add, z_sub, z_mul, z_neg, z_nI, z_cl, z_sg, z_255, z_lit, Int32.reduceToInt] <;> omega))) (bad (Or.inr ⟨by omega, k3⟩))
              · exact br_f (by (first | omega | (simp (disch := omega) only [Int32.le_iff_toInt_le, Int32.lt_iff_toInt_lt, z_eq, z_in, nI_toInt, z_cl, z_m1, z_sg, z_255, Int32.reduceToInt] <;> omega) | (simp only [Int32.le_iff_toInt_le, Int32.lt_iff_toInt_lt, z_eq, z_in, z_add, z_sub, z_mul, z_neg, z_nI, z_cl, z_sg, z_255, z_lit, Int32.reduceToInt] <;> omega))) (good (by omega))
      · have ei : i = 4 := by omega
        subst ei
        refine br_t (by decide) ?_
        have ew : wdF T st first last 4 0 q = .ok ((), q + 4) := z4
        obtain ⟨-, -, wo⟩ := wdF_ok _ _ _ _ _ ew
        have eb2 : blkR T st first last acc p = ptF T st first last q (uz v) 4 0 acc (q + 4) := by rw [eb, ew]
        refine lp_Src_readBlock_75 (fun a0 a1 a2 a3 a4 a5 u => o = a0 ∧ r = a1 ∧ nI (first + 1) = a2 ∧ nI (last + 1) = a3 ∧ uz v = a4 ∧ FrSB o r x u ∧ ∃ i, nI i = a5 ∧ i ≤ 4 ∧ ((∃ e, FlC o u e ∧ blkR T st first last acc p = .error e) ∨ ∃ ac pp, Sr o u T n pp st ∧ WdS u o T q 4 ∧ ac.length = 1 + min last (first + 16 * i) ∧ (∀ j, j < ac.length → fL u r j = ac.getD j 0) ∧ blkR T st first last acc p = ptF T st first last q (uz v) (4 - i) i ac pp)) (fun _ _ _ _ _ a5 _ => 4 - a5.toNatClampNeg) ?_ _ _ _ _ _ _ _ ⟨rfl, rfl, rfl, rfl, rfl, FrSW.b z1, 0, rfl, by decide, Or.inr ⟨acc, q + 4, Sz, z3, by omega, by rw [z1.ll id]; exact hc, eb2⟩⟩
        rintro Q2 a0 a1 a2 a3 a4 a5 u ⟨rfl, rfl, rfl, rfl, rfl, u1, i, rfl, i1, u2⟩ ih2
        have Lu := (Fg.fic u1 ho.n82 S.1).1
        have nu := u1.len r
        unfold j_Src_readBlock_75
        rcases u2 with ⟨e, u3, u4⟩ | ⟨ac, pp, Su, u3, u4, u5, u6⟩
        · refine ⟨fun _ => pe e u u4 u1 u3, fun z => ⟨?_, fun v10 _ v11 _ => k_has0 u3.ne ⟨fun w => absurd rfl w, fun _ => pe e u u4 u1 u3⟩⟩⟩
          rw [ho.st4, ho.l4 Lu]
          refine vp_in_nI ?_ (by decide)
          have : ¬ 4 ≤ i := fun w => z (by (first | omega | (simp (disch := omega) only [Int32.le_iff_toInt_le, Int32.lt_iff_toInt_lt, z_eq, z_in, nI_toInt, z_cl, z_m1, z_sg, z_255, Int32.reduceToInt] <;> omega) | (simp only [Int32.le_iff_toInt_le, Int32.lt_iff_toInt_lt, z_eq, z_in, z_add, z_sub, z_mul, z_neg, z_nI, z_cl, z_sg, z_255, z_lit, Int32.reduceToInt] <;> omega)))
          omega
        · by_cases ci : i < 4
          · obtain ⟨d, hd⟩ : ∃ d, 4 - i = d + 1 := ⟨3 - i, by omega⟩
            have hT := S.t (q + i)
            obtain ⟨o1, o2⟩ := wo i ci
            rw [Nat.zero_add] at o2
            refine br_f (by (first | omega | (simp (disch := omega) only [Int32.le_iff_toInt_le, Int32.lt_iff_toInt_lt, z_eq, z_in, nI_toInt, z_cl, z_m1, z_sg, z_255, Int32.reduceToInt] <;> omega) | (simp only [Int32.le_iff_toInt_le, Int32.lt_iff_toInt_lt, z_eq, z_in, z_add, z_sub, z_mul, z_neg, z_nI, z_cl, z_sg, z_255, z_lit, Int32.reduceToInt] <;> omega))) ⟨by rw [ho.st4, ho.l4 Lu]; exact vp_in_nI ci (by decide), nm_r (e' := nI (T (q + i))) ?_ (nm_r (e' := nI (first + 1 + 16 * i)) (by rw [show (16 : Int32) = nI 16 from rfl, nI_mul, nI_add]) ?_)⟩
            · rw [ho.st4, rA_nI (by omega), u3 i ci]
            rw [show (2 : Int32) * nI (T (q + i)) = nI (2 * T (q + i)) from by rw [show (2 : Int32) = nI 2 from rfl, nI_mul], show (nI (2 * T (q + i))).toInt64 = lN (2 * T (q + i)) from nI_l (by omega)]
            rw [hd] at u6
            have up : ptF T st first last q (uz v) (d + 1) i ac pp = (if last ≤ first + 16 * i then .ok (ac, pp) else if st < pp + 2 * T (q + i) then .error 1 else if ∃ k, k < 16 ∧ last ≤ first + 16 * i + k ∧ bsN T pp (T (q + i) * k) (T (q + i)) ≠ 0 then .error 5 else ptF T st first last q (uz v) d (i + 1) (exL T pp (T (q + i)) (uz v) (min 16 (last - (first + 16 * i))) ac) (pp + 2 * T (q + i))) := rfl
            have hSu := Su.le
            refine r_has (by omega) Su (fun u' w1 w2 w3 => ?_) (fun w1 => ?_)
            · have c : ¬ last ≤ first + 16 * i := fun z => by have := o2 z; omega
              refine bn_t rfl (pe 1 u' ?_ (Fg.trans u1 (FrSr.b w2)) w3)
              rw [u6, up, if_neg c, if_pos w1]
            · refine bn_f (by decide) (k_part ho Su o1 ci hf hlast (by omega) (by omega) w1 o2 (by omega) u5 u3 (fun y' w2 w3 w4 => ?_) (fun y' w2 w3 w4 w5 w6 => ?_))
              · refine ih2 _ _ _ _ _ _ _ ⟨rfl, rfl, rfl, rfl, rfl, Fg.trans u1 w3, i + 1, rfl, ci, Or.inl ⟨5, w4, ?_⟩⟩ (by rw [nI_clamp (by omega), nI_clamp (by omega)]; omega)
                have c : ¬ last ≤ first + 16 * i := fun z => by
                  obtain ⟨k, -, -, k3⟩ := w2
                  rw [o2 z] at k3
                  exact k3 rfl
                rw [u6, up, if_neg c, if_neg (by omega), if_pos w2]
              · refine ih2 _ _ _ _ _ _ _ ⟨rfl, rfl, rfl, rfl, rfl, Fg.trans u1 w3, i + 1, rfl, ci, Or.inr ⟨exL T pp (T (q + i)) (uz v) (min 16 (last - (first + 16 * i))) ac, pp + 2 * T (q + i), w4, w5, ?_, w6, ?_⟩⟩ (by rw [nI_clamp (by omega), nI_clamp (by omega)]; omega)
                · rw [exL_len]; omega
                · rw [u6, up, show 4 - (i + 1) = d by omega]
                  by_cases c : last ≤ first + 16 * i
                  · rw [if_pos c, o2 c, show last - (first + 16 * i) = 0 by omega]
                    show _ = ptF T st first last q (uz v) d (i + 1) ac pp
                    cases d with
                    | zero => rfl
                    | succ d => simp only [ptF]; rw [if_pos (by omega)]
                  · rw [if_neg c, if_neg (by omega), if_neg w2]
          · have ei : i = 4 := by omega
            subst ei
            exact br_t (by decide) (pk ac pp u u6 u1 Su u5)
end
