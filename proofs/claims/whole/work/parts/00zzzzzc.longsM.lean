/-! the model reads a CODE -/
abbrev FrRl (x y : St) : Prop := Fg (fun o k => o = 0 ∧ (k = 67 ∨ k = 69)) no2 no2 no1 (fun a => a = 43) x y
abbrev FrRg (x y : St) : Prop := Fg (fun o k => o = 0 ∧ (k = 67 ∨ k = 69 ∨ k = 71)) no2 no2 no1 (fun a => a = 43) x y
section
variable {x : St} {T : Nat → Nat} {n st p : Nat}
theorem FrRd.rl {y : St} (f : FrRd x y) : FrRl x y := f.mono (fun _ _ z => ⟨z.1, by omega⟩) (fun _ _ z => z) (fun _ _ z => z) (fun _ z => z) (fun _ z => z.elim)
theorem FrRl.fi {y : St} (f : FrRl x y) (h : FiM x T n) : FiM y T n := h.cg (f.2.2.2.1 41 id) (fun o => by show y.2.2.2.2.2 o = _; rw [f.2.2.2.2.2])
theorem FrRl.g {y : St} (f : FrRl x y) : FrRg x y := f.mono (fun _ _ z => ⟨z.1, by omega⟩) (fun _ _ z => z) (fun _ _ z => z) (fun _ z => z) (fun _ z => z)
theorem FrRg.fi {y : St} (f : FrRg x y) (h : FiM x T n) : FiM y T n := h.cg (f.2.2.2.1 41 id) (fun o => by show y.2.2.2.2.2 o = _; rw [f.2.2.2.2.2])
theorem FrRl.len {y : St} (f : FrRl x y) (o : Nat) : fN y o = fN x o := by show y.2.2.2.2.2 o = _; rw [f.2.2.2.2.2]
def LgL (y : St) (L : List Int64) : Prop := ∀ i, i < L.length → fL y 43 i = L.getD i 0
theorem s_uz {post : Int64 → St → Prop} {v : Nat} (hv : v < 2 ^ 64) (k : post (uz v) x) : wp_Mod_unzigzag post (lN v) x := by
  unfold wp_Mod_unzigzag
  rw [wb_a1 hv, show ((lN v : Int64).toUInt64 >>> ((1 : Int32).toInt64.toUInt64 &&& Int64.toUInt64 63)).toInt64 = lN (v / 2) from wb_shr (k := 1) hv (by decide)]
  unfold uz at k
  by_cases c : v % 2 = 0
  · rw [if_pos c] at k
    exact ⟨fun z => absurd ((lg_cmp_eq _ _).mpr (by rw [c]; rfl)) z, fun _ => k⟩
  · rw [if_neg c] at k
    exact ⟨fun _ => k, fun z => absurd ((lN0 (by omega)).mp ((lg_cmp_eq _ _).mp z)) c⟩
theorem getD_l1 {L : List Int64} {v : Int64} {i : Nat} (h : i < L.length) : (L ++ [v]).getD i 0 = L.getD i 0 := by
  rw [List.getD_eq_getElem?_getD, List.getD_eq_getElem?_getD, List.getElem?_append_left h]
theorem getD_l2 {L : List Int64} {v : Int64} : (L ++ [v]).getD L.length 0 = v := by
  rw [List.getD_eq_getElem?_getD, List.getElem?_append_right (Nat.le_refl _), Nat.sub_self]
  rfl
theorem last_getD {L : List Int64} (h : L.length ≠ 0) : L.getLastD 0 = L.getD (L.length - 1) 0 := by
  rw [List.getLastD_eq_getLast?, List.getLast?_eq_getElem?, List.getD_eq_getElem?_getD]
/-- the numbers of a part -/
theorem s_part {post : St → Prop} {rec109 : Int32 → Int32 → Int32 → Int64 → Int32 → Int32 → St → Prop} {first last i w : Nat} {least : Int64} {l6 : Int32} {acc : List Int64} (hF : FiM x T n) (h0 : fI x 0 69 = 0) (hp : fI x 0 67 = nI p) (hps : p + 2 * w ≤ st) (hst : st ≤ n) (hw : w ≤ 64) (hi : i < 4) (hfl : first + 16 * i < last) (hl : last ≤ 1999) (hacc : acc.length = first + 16 * i + 1) (hL : LgL x acc)
    (pe : ∀ y, (∃ k, k < 16 ∧ last ≤ first + 16 * i + k ∧ bsN T p (w * k) w ≠ 0) → FrRl x y → Flt y 5 → rec109 (nI first) (nI last) (nI st) least l6 (nI (i + 1)) y)
    (pk : ∀ y, (¬ ∃ k, k < 16 ∧ last ≤ first + 16 * i + k ∧ bsN T p (w * k) w ≠ 0) → FrRl x y → fI y 0 69 = 0 → fI y 0 67 = nI (p + 2 * w) → LgL y (exL T p w least (min 16 (last - (first + 16 * i))) acc) → rec109 (nI first) (nI last) (nI st) least l6 (nI (i + 1)) y) : j_Mod_readBlock_163 post rec109 (nI first) (nI last) (nI st) least l6 (nI i) (nI w) x := by
  have hn := hF.2.1
  have hT := hF.2.2.1
  have e43 : fN x 43 = 2000 := hF.1 43
  unfold j_Mod_readBlock_163
  refine lp_Mod_readBlock_166 (fun a0 a1 a2 a3 a4 a5 a6 a7 y => nI first = a0 ∧ nI last = a1 ∧ nI st = a2 ∧ least = a3 ∧ l6 = a4 ∧ nI i = a5 ∧ nI w = a6 ∧ FrRl x y ∧ fI y 0 67 = nI p ∧ ∃ k, nI k = a7 ∧ k ≤ 16 ∧ ((fI y 0 69 = 0 ∧ (¬ ∃ j, j < k ∧ last ≤ first + 16 * i + j ∧ bsN T p (w * j) w ≠ 0) ∧ LgL y (exL T p w least (min k (last - (first + 16 * i))) acc)) ∨ Flt y 5 ∧ ∃ j, j < k ∧ last ≤ first + 16 * i + j ∧ bsN T p (w * j) w ≠ 0)) (fun _ _ _ _ _ _ _ a7 _ => 16 - a7.toNatClampNeg) ?_ _ _ _ _ _ _ _ _ _ ⟨rfl, rfl, rfl, rfl, rfl, rfl, rfl, Fg.refl x, hp, 0, rfl, by decide, Or.inl ⟨h0, fun z => by obtain ⟨j, j1, -⟩ := z; omega, by rw [Nat.zero_min]; exact hL⟩⟩
  rintro Q a0 a1 a2 a3 a4 a5 a6 a7 y ⟨rfl, rfl, rfl, rfl, rfl, rfl, rfl, y1, y2, k, rfl, k1, y3⟩ ih
  have Fy := y1.fi hF
  have z41 : fN y 41 = 40000 := Fy.1 41
  have z43 : fN y 43 = 2000 := Fy.1 43
  unfold j_Mod_readBlock_166
  by_cases c : k < 16
  · refine br_f (by (first | omega | (simp (disch := omega) only [Int32.le_iff_toInt_le, Int32.lt_iff_toInt_lt, z_eq, z_in, nI_toInt, z_cl, z_m1, z_sg, z_255, Int32.reduceToInt] <;> omega) | (simp only [Int32.le_iff_toInt_le, Int32.lt_iff_toInt_lt, z_eq, z_in, z_add, z_sub, z_mul, z_neg, z_nI, z_cl, z_sg, z_255, z_lit, Int32.reduceToInt] <;> omega))) ?_
    have ne1 : ¬ fI y 0 69 = 1 := fun z => by
      rcases y3 with ⟨q, -⟩ | ⟨q, -⟩
      · rw [q] at z; exact absurd z (by decide)
      · rw [q.1] at z; exact absurd z (by decide)
    refine ⟨fun z => absurd z ne1, fun _ => ?_⟩
    have nx : ∀ z, FrRl x z → fI z 0 67 = nI p → ((fI z 0 69 = 0 ∧ (¬ ∃ j, j < k + 1 ∧ last ≤ first + 16 * i + j ∧ bsN T p (w * j) w ≠ 0) ∧ LgL z (exL T p w least (min (k + 1) (last - (first + 16 * i))) acc)) ∨ Flt z 5 ∧ ∃ j, j < k + 1 ∧ last ≤ first + 16 * i + j ∧ bsN T p (w * j) w ≠ 0) → ∀ l10 l12, j_Mod_readBlock_299 post rec109 Q (nI first) (nI last) (nI st) least l6 (nI i) (nI w) (nI k) l10 l12 z := fun z z1 z2 z3 l10 l12 => by
      unfold j_Mod_readBlock_299
      rw [nI_1]
      exact ih _ _ _ _ _ _ _ _ _ ⟨rfl, rfl, rfl, rfl, rfl, rfl, rfl, z1, z2, k + 1, rfl, c, z3⟩ (by rw [nI_clamp (by omega), nI_clamp (by omega)]; omega)
    refine lp_Mod_readBlock_187 (fun a0 a1 a2 a3 a4 a5 a6 a7 a8 a9 z => nI first = a0 ∧ nI last = a1 ∧ nI st = a2 ∧ least = a3 ∧ l6 = a4 ∧ nI i = a5 ∧ nI w = a6 ∧ nI k = a7 ∧ y = z ∧ ∃ j, nI j = a9 ∧ j ≤ w ∧ a8 = lN (bsN T p (w * k) j)) (fun _ _ _ _ _ _ _ _ _ a9 _ => w - a9.toNatClampNeg) ?_ _ _ _ _ _ _ _ _ _ _ _ ⟨rfl, rfl, rfl, rfl, rfl, rfl, rfl, rfl, rfl, 0, rfl, Nat.zero_le _, rfl⟩
    rintro Q2 a0 a1 a2 a3 a4 a5 a6 a7 a8 a9 z ⟨rfl, rfl, rfl, rfl, rfl, rfl, rfl, rfl, rfl, j, rfl, j1, rfl⟩ ih2
    unfold j_Mod_readBlock_187
    have wk : w * k + w ≤ 16 * w := by
      have : (k + 1) * w ≤ 16 * w := Nat.mul_le_mul_right _ c
      rw [Nat.succ_mul, Nat.mul_comm k w] at this
      exact this
    by_cases cj : j < w
    · refine br_f (by (first | omega | (simp (disch := omega) only [Int32.le_iff_toInt_le, Int32.lt_iff_toInt_lt, z_eq, z_in, nI_toInt, z_cl, z_m1, z_sg, z_255, Int32.reduceToInt] <;> omega) | (simp only [Int32.le_iff_toInt_le, Int32.lt_iff_toInt_lt, z_eq, z_in, z_add, z_sub, z_mul, z_neg, z_nI, z_cl, z_sg, z_255, z_lit, Int32.reduceToInt] <;> omega))) ?_
      have hq : p + (w * k + j) / 8 < n := by omega
      have hTj := hT (p + (w * k + j) / 8)
      rw [y2, nI_mul, nI_add, nI_r8 (by omega), show nI (w * k + j) / 8 = nI ((w * k + j) / 8) from by rw [show (8 : Int32) = nI 8 from rfl, nI_dv (by omega) (by decide) (by decide)], nI_add]
      refine ⟨vp_in_nI (by omega) (by omega), ?_⟩
      rw [rA_nI (by omega), Fy.2.2.2 _ hq, by_bit hTj (by omega), show (nI (T (p + (w * k + j) / 8) / 2 ^ ((w * k + j) % 8) % 2)).toInt64 = lN (T (p + (w * k + j) / 8) / 2 ^ ((w * k + j) % 8) % 2) from nI_l (by omega), wb_shl _ (by omega)]
      have lt := bsN_lt (T := T) (p := p) (m := w * k) j
      have le : 2 ^ (j + 1) ≤ 2 ^ 64 := Nat.pow_le_pow_right (by decide) (by omega)
      have lt2 := bsN_lt (T := T) (p := p) (m := w * k) (j + 1)
      have eb : bsN T p (w * k) (j + 1) = bsN T p (w * k) j + T (p + (w * k + j) / 8) / 2 ^ ((w * k + j) % 8) % 2 * 2 ^ j := rfl
      refine nm_r (e' := lN (bsN T p (w * k) (j + 1))) (by rw [eb]; exact g_or' (k := j) rfl lt (by rw [← eb]; omega)) ?_
      rw [nI_1]
      exact ih2 _ _ _ _ _ _ _ _ _ _ _ ⟨rfl, rfl, rfl, rfl, rfl, rfl, rfl, rfl, rfl, j + 1, rfl, cj, rfl⟩ (by rw [nI_clamp (by omega), nI_clamp (by omega)]; omega)
    · have ej : j = w := by omega
      subst ej
      refine br_t (by (first | omega | (simp (disch := omega) only [Int32.le_iff_toInt_le, Int32.lt_iff_toInt_lt, z_eq, z_in, nI_toInt, z_cl, z_m1, z_sg, z_255, Int32.reduceToInt] <;> omega) | (simp only [Int32.le_iff_toInt_le, Int32.lt_iff_toInt_lt, z_eq, z_in, z_add, z_sub, z_mul, z_neg, z_nI, z_cl, z_sg, z_255, z_lit, Int32.reduceToInt] <;> omega))) (nm_r (e' := nI (first + 16 * i + k)) (by rw [show (16 : Int32) = nI 16 from rfl, nI_mul, nI_add, nI_add]) ?_)
      have bl := bsN_lt (T := T) (p := p) (m := j * k) j
      have b64 : 2 ^ j ≤ 2 ^ 64 := Nat.pow_le_pow_right (by decide) hw
      have keep3 : (last ≤ first + 16 * i + k → bsN T p (j * k) j = 0) → LgL y (exL T p j least (min (k + 1) (last - (first + 16 * i))) acc) ∨ Flt y 5 → ((fI y 0 69 = 0 ∧ (¬ ∃ l, l < k + 1 ∧ last ≤ first + 16 * i + l ∧ bsN T p (j * l) j ≠ 0) ∧ LgL y (exL T p j least (min (k + 1) (last - (first + 16 * i))) acc)) ∨ Flt y 5 ∧ ∃ l, l < k + 1 ∧ last ≤ first + 16 * i + l ∧ bsN T p (j * l) j ≠ 0) := fun hz hl => by
        rcases y3 with ⟨q1, q2, q3⟩ | ⟨q1, l, q2, q3, q4⟩
        · refine Or.inl ⟨q1, fun z => ?_, ?_⟩
          · obtain ⟨l, j1, j2, j3⟩ := z
            by_cases el : l = k
            · rw [el] at j2 j3; exact j3 (hz j2)
            · exact q2 ⟨l, by omega, j2, j3⟩
          · rcases hl with w | w
            · exact w
            · exact absurd q1 w.ne
        · exact Or.inr ⟨q1, l, by omega, q3, q4⟩
      by_cases cl : last ≤ first + 16 * i + k
      · refine br_t (by (first | omega | (simp (disch := omega) only [Int32.le_iff_toInt_le, Int32.lt_iff_toInt_lt, z_eq, z_in, nI_toInt, z_cl, z_m1, z_sg, z_255, Int32.reduceToInt] <;> omega) | (simp only [Int32.le_iff_toInt_le, Int32.lt_iff_toInt_lt, z_eq, z_in, z_add, z_sub, z_mul, z_neg, z_nI, z_cl, z_sg, z_255, z_lit, Int32.reduceToInt] <;> omega))) ?_
        have em : min (k + 1) (last - (first + 16 * i)) = min k (last - (first + 16 * i)) := by omega
        by_cases cz : bsN T p (j * k) j = 0
        · refine ⟨fun _ => nx y y1 y2 (keep3 (fun _ => cz) ?_) _ _, fun z => absurd ((lg_cmp_eq _ _).mpr (by rw [cz]; rfl)) z⟩
          rcases y3 with ⟨-, -, q3⟩ | ⟨q1, -⟩
          · exact Or.inl (by rw [em]; exact q3)
          · exact Or.inr q1
        · refine ⟨fun z => absurd ((lN0 (by omega)).mp ((lg_cmp_eq _ _).mp z)) cz, fun _ => nm_e (nx _ (Fg.trans y1 (Fg.i ⟨rfl, by decide⟩)) ((gI_ne (by decide)).trans y2) (Or.inr ⟨⟨gI_at, by decide, by decide⟩, k, by omega, cl, cz⟩) _ _)⟩
      · refine br_f (by (first | omega | (simp (disch := omega) only [Int32.le_iff_toInt_le, Int32.lt_iff_toInt_lt, z_eq, z_in, nI_toInt, z_cl, z_m1, z_sg, z_255, Int32.reduceToInt] <;> omega) | (simp only [Int32.le_iff_toInt_le, Int32.lt_iff_toInt_lt, z_eq, z_in, z_add, z_sub, z_mul, z_neg, z_nI, z_cl, z_sg, z_255, z_lit, Int32.reduceToInt] <;> omega))) ⟨vp_in_nI (by omega) (by omega), ?_⟩
        rw [nI_1]
        refine ⟨vp_in_nI (by omega) (by omega), nm_e ?_⟩
        have em : min (k + 1) (last - (first + 16 * i)) = k + 1 := by omega
        have em0 : min k (last - (first + 16 * i)) = k := by omega
        refine nx _ (Fg.trans y1 (Fg.l rfl)) y2 ?_ _ _
        rcases y3 with ⟨q1, q2, q3⟩ | ⟨q1, l, q2, q3, q4⟩
        · refine Or.inl ⟨q1, fun z => ?_, ?_⟩
          · obtain ⟨l, j1, j2, j3⟩ := z
            omega
          · rw [em0] at q3
            rw [em]
            have len := exL_len (T := T) (p := p) (w := j) (least := least) (acc := acc) k
            have q4 := q3 (first + 16 * i + k) (by omega)
            rw [rL_nI (by omega), q4]
            intro l hl
            rw [exL_len] at hl
            show fL (setL y 43 (nI (first + 16 * i + k + 1)) _) 43 l = (exL T p j least k acc ++ [_]).getD l 0
            rw [gL_at, nI_clamp (by omega)]
            by_cases el : l = first + 16 * i + k + 1
            · rw [el, updL_at, show first + 16 * i + k + 1 = (exL T p j least k acc).length by omega, getD_l2, last_getD (by omega), show (exL T p j least k acc).length - 1 = first + 16 * i + k by omega]
            · rw [updL_ne el, getD_l1 (by omega)]
              exact q3 l (by omega)
        · exfalso; omega
  · have e : k = 16 := by omega
    subst e
    refine br_t (by decide) ?_
    unfold j_Mod_readBlock_305
    rw [y2, show (2 : Int32) * nI w = nI (2 * w) from by rw [show (2 : Int32) = nI 2 from rfl, nI_mul], nI_add, nI_1]
    refine nm_e ?_
    have fz : FrRl x (setI y 0 67 (nI (p + 2 * w))) := Fg.trans y1 (Fg.i ⟨rfl, by decide⟩)
    rcases y3 with ⟨q1, q2, q3⟩ | ⟨q1, q2⟩
    · exact pk _ q2 fz ((gI_ne (by decide)).trans q1) gI_at q3
    · exact pe _ q2 fz ⟨(gI_ne (by decide)).trans q1.1, q1.2⟩
end
