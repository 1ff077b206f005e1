/-! the model reads texts -/
abbrev FrVl (x y : St) : Prop := Fg (fun o k => o = 0 ∧ (k = 58 ∨ k = 59 ∨ k = 67 ∨ k = 69 ∨ k = 71)) no2 no2 (fun a => a = 34 ∨ a = 35 ∨ a = 37 ∨ a = 38 ∨ a = 44 ∨ a = 45 ∨ a = 46) (fun a => a = 31 ∨ a = 32 ∨ a = 43) x y
def NwT (y : St) (P : List PV) : Prop := fI y 0 58 = nI P.length ∧ P.length ≤ 1000 ∧ oF P P.length ≤ 20000 ∧ (∀ k, k ≤ P.length → fA y 34 k = nI (oF P k)) ∧ ∀ k, k < P.length → ∀ j, j < (pvd P k).2.length → fA y 37 (oF P k + j) = (pvd P k).2.getD j 0
section
variable {x : St} {T : Nat → Nat} {n st p : Nat}
theorem FrRd.vl {y : St} (f : FrRd x y) : FrVl x y := f.mono (fun _ _ z => ⟨z.1, by omega⟩) (fun _ _ z => z) (fun _ _ z => z) (fun _ z => z.elim) (fun _ z => z.elim)
theorem FrRg.vl {y : St} (f : FrRg x y) : FrVl x y := f.mono (fun _ _ z => ⟨z.1, by omega⟩) (fun _ _ z => z) (fun _ _ z => z) (fun _ z => z.elim) (fun _ z => by omega)
theorem FrRw.vl {y : St} (f : FrRw 44 x y) : FrVl x y := f.mono (fun _ _ z => ⟨z.1, by omega⟩) (fun _ _ z => z) (fun _ _ z => z) (fun _ z => by omega) (fun _ z => z.elim)
theorem FrVl.fi {y : St} (f : FrVl x y) (h : FiM x T n) : FiM y T n := h.cg (f.2.2.2.1 41 (by decide)) (fun o => by show y.2.2.2.2.2 o = _; rw [f.2.2.2.2.2])
theorem NwT.cg {y : St} {P : List PV} (h : NwT x P) (e1 : fI y 0 58 = fI x 0 58) (e2 : fA y 34 = fA x 34) (e3 : fA y 37 = fA x 37) : NwT y P := by
  unfold NwT
  rw [e1, e2, e3]
  exact h
theorem FrRd.nw {y : St} {P : List PV} (f : FrRd x y) (h : NwT x P) : NwT y P := h.cg (f.1 0 58 (by decide)) (f.2.2.2.1 34 id) (f.2.2.2.1 37 id)
theorem FrRg.nw {y : St} {P : List PV} (f : FrRg x y) (h : NwT x P) : NwT y P := h.cg (f.1 0 58 (by decide)) (f.2.2.2.1 34 id) (f.2.2.2.1 37 id)
theorem NwT.z {y : St} {P : List PV} (h : NwT y P) : fA y 34 0 = 0 := h.2.2.2.1 0 (Nat.zero_le _)
theorem pv_last {P : List PV} {q : PV} : pvd (P ++ [q]) P.length = q := by
  unfold pvd
  rw [List.getD_eq_getElem?_getD, List.getElem?_append_right (Nat.le_refl _), Nat.sub_self]
  rfl
abbrev FrTk (x y : St) : Prop := Fg (fun o k => o = 0 ∧ (k = 58 ∨ k = 67 ∨ k = 69)) no2 no2 (fun a => a = 34 ∨ a = 37) no1 x y
theorem FrTk.vl {y : St} (f : FrTk x y) : FrVl x y := f.mono (fun _ _ z => ⟨z.1, by omega⟩) (fun _ _ z => z) (fun _ _ z => z) (fun _ z => by omega) (fun _ z => z.elim)
theorem FrTk.fi {y : St} (f : FrTk x y) (h : FiM x T n) : FiM y T n := h.cg (f.2.2.2.1 41 (by decide)) (fun o => by show y.2.2.2.2.2 o = _; rw [f.2.2.2.2.2])
theorem s_takeText {post : St → Prop} {m b : Nat} {acc : List PV} (hF : FiM x T n) (h0 : fI x 0 69 = 0) (hp : fI x 0 67 = nI p) (h68 : fI x 0 68 = nI st) (hps : p ≤ st) (hst : st ≤ n) (hm : m ≤ 255) (hb : b ≤ (pvd acc (acc.length - 1)).2.length) (hb2 : b ≤ 255) (hl : acc.length < 1000) (hN : NwT x acc)
    (pe : ∀ e y, (st < p + m ∧ e = 1 ∨ ¬ st < p + m ∧ 20000 < oF acc acc.length + b + m ∧ e = 7) → FrTk x y → Flt y e → fA y 34 = fA x 34 → post y)
    (pk : ∀ y, ¬ st < p + m → ¬ 20000 < oF acc acc.length + b + m → FrTk x y → fI y 0 69 = 0 → fI y 0 67 = nI (p + m) → NwT y (acc ++ [(0, (pvd acc (acc.length - 1)).2.take b ++ txs T p m)]) → post y) : wp_Mod_takeText post (nI m) (nI b) x := by
  obtain ⟨n1, n2, n3, n4, n5⟩ := id hN
  have hn := hF.2.1
  have e34 : fN x 34 = 1001 := hF.1 34
  have e37 : fN x 37 = 20000 := hF.1 37
  have e41 : fN x 41 = 40000 := hF.1 41
  have flt : ∀ e, 0 < e → e < 100 → (st < p + m ∧ e = 1 ∨ ¬ st < p + m ∧ 20000 < oF acc acc.length + b + m ∧ e = 7) → j_Mod_takeText_46 post (nI m) (nI b) (setI x 0 69 (nI e)) := fun e e1 e2 p' => by
    have fl : Flt (setI x 0 69 (nI e)) e := ⟨gI_at, e1, e2⟩
    unfold j_Mod_takeText_46
    exact ⟨fun z => absurd z fl.ne, fun _ => pe e _ p' (Fg.i ⟨rfl, by decide⟩) fl rfl⟩
  unfold wp_Mod_takeText
  rw [h68, hp, nI_sub hps]
  by_cases c1 : st < p + m
  · exact br_f (by (first | omega | (simp (disch := omega) only [Int32.le_iff_toInt_le, Int32.lt_iff_toInt_lt, z_eq, z_in, nI_toInt, z_cl, z_m1, z_sg, z_255, Int32.reduceToInt] <;> omega) | (simp only [Int32.le_iff_toInt_le, Int32.lt_iff_toInt_lt, z_eq, z_in, z_add, z_sub, z_mul, z_neg, z_nI, z_cl, z_sg, z_255, z_lit, Int32.reduceToInt] <;> omega))) (nm_e (flt 1 (by decide) (by decide) (Or.inl ⟨c1, rfl⟩)))
  · refine br_t (by (first | omega | (simp (disch := omega) only [Int32.le_iff_toInt_le, Int32.lt_iff_toInt_lt, z_eq, z_in, nI_toInt, z_cl, z_m1, z_sg, z_255, Int32.reduceToInt] <;> omega) | (simp only [Int32.le_iff_toInt_le, Int32.lt_iff_toInt_lt, z_eq, z_in, z_add, z_sub, z_mul, z_neg, z_nI, z_cl, z_sg, z_255, z_lit, Int32.reduceToInt] <;> omega))) ?_
    rw [n1]
    refine ⟨vp_in_nI (by omega) (by omega), ?_⟩
    rw [rA_nI (by omega), n4 _ (Nat.le_refl _), nI_add, nI_add]
    by_cases c2 : 20000 < oF acc acc.length + b + m
    · exact br_f (by (first | omega | (simp (disch := omega) only [Int32.le_iff_toInt_le, Int32.lt_iff_toInt_lt, z_eq, z_in, nI_toInt, z_cl, z_m1, z_sg, z_255, Int32.reduceToInt] <;> omega) | (simp only [Int32.le_iff_toInt_le, Int32.lt_iff_toInt_lt, z_eq, z_in, z_add, z_sub, z_mul, z_neg, z_nI, z_cl, z_sg, z_255, z_lit, Int32.reduceToInt] <;> omega))) (nm_e (flt 7 (by decide) (by decide) (Or.inr ⟨c1, c2, rfl⟩)))
    · refine br_t (by (first | omega | (simp (disch := omega) only [Int32.le_iff_toInt_le, Int32.lt_iff_toInt_lt, z_eq, z_in, nI_toInt, z_cl, z_m1, z_sg, z_255, Int32.reduceToInt] <;> omega) | (simp only [Int32.le_iff_toInt_le, Int32.lt_iff_toInt_lt, z_eq, z_in, z_add, z_sub, z_mul, z_neg, z_nI, z_cl, z_sg, z_255, z_lit, Int32.reduceToInt] <;> omega))) ?_
      unfold j_Mod_takeText_46
      refine ⟨fun _ => ?_, fun z => absurd h0 z⟩
      rw [n1]
      refine ⟨vp_in_nI (by omega) (by omega), nm_r (e' := nI (oF acc acc.length)) (by rw [rA_nI (by omega)]; exact n4 _ (Nat.le_refl _)) ?_⟩
      -- bytes in common with the text before
      have tk : ((pvd acc (acc.length - 1)).2.take b).length = b := by rw [List.length_take]; omega
      refine lp_Mod_takeText_67 (fun a0 a1 a2 a3 y => nI m = a0 ∧ nI b = a1 ∧ nI (oF acc acc.length) = a2 ∧ ∃ i, nI i = a3 ∧ i ≤ b ∧ Fg no2 no2 no2 (fun a => a = 37) no1 x y ∧ (∀ j, j < oF acc acc.length → fA y 37 j = fA x 37 j) ∧ ∀ j, j < i → fA y 37 (oF acc acc.length + j) = (pvd acc (acc.length - 1)).2.getD j 0) (fun _ _ _ a3 _ => b - a3.toNatClampNeg) ?_ _ _ _ _ _ ⟨rfl, rfl, rfl, 0, rfl, Nat.zero_le _, Fg.refl x, fun _ _ => rfl, fun j hj => absurd hj (Nat.not_lt_zero _)⟩
      rintro Q a0 a1 a2 a3 y ⟨rfl, rfl, rfl, i, rfl, i1, y1, y2, y3⟩ ih
      have I0 : ∀ k, fI y 0 k = fI x 0 k := fun k => y1.1 0 k id
      have N0 : ∀ o, fN y o = fN x o := fun o => by show y.2.2.2.2.2 o = _; rw [y1.2.2.2.2.2]
      have A34 : fA y 34 = fA x 34 := y1.2.2.2.1 34 (by decide)
      have A41 : fA y 41 = fA x 41 := y1.2.2.2.1 41 (by decide)
      have m34 := N0 34
      have m37 := N0 37
      have m41 := N0 41
      unfold j_Mod_takeText_67
      by_cases ci : i < b
      · have hal : acc.length ≠ 0 := fun z => by
          have e : acc = [] := List.length_eq_zero_iff.mp z
          rw [e] at hb
          have : b ≤ 0 := hb
          omega
        have el := n4 (acc.length - 1) (by omega)
        have eo : oF acc acc.length = oF acc (acc.length - 1) + (pvd acc (acc.length - 1)).2.length := by
          obtain ⟨l, hl'⟩ : ∃ l, acc.length = l + 1 := ⟨acc.length - 1, by omega⟩
          rw [hl']; rfl
        refine br_f (by (first | omega | (simp (disch := omega) only [Int32.le_iff_toInt_le, Int32.lt_iff_toInt_lt, z_eq, z_in, nI_toInt, z_cl, z_m1, z_sg, z_255, Int32.reduceToInt] <;> omega) | (simp only [Int32.le_iff_toInt_le, Int32.lt_iff_toInt_lt, z_eq, z_in, z_add, z_sub, z_mul, z_neg, z_nI, z_cl, z_sg, z_255, z_lit, Int32.reduceToInt] <;> omega))) ?_
        rw [I0 58, n1, show nI acc.length - 1 = nI (acc.length - 1) from by rw [show (1 : Int32) = nI 1 from rfl, nI_sub (by omega)]]
        refine ⟨vp_in_nI (by omega) (by omega), ?_⟩
        rw [rA_nI (by omega), A34, el, nI_add, nI_add]
        refine ⟨vp_in_nI (by omega) (by omega), vp_in_nI (by omega) (by omega), nm_e ?_⟩
        rw [rA_nI (by omega), y2 _ (by omega), n5 (acc.length - 1) (by omega) i (by omega), nI_1]
        refine ih _ _ _ _ _ ⟨rfl, rfl, rfl, i + 1, rfl, ci, Fg.trans y1 (Fg.a rfl), fun j hj => ?_, fun j hj => ?_⟩ (by rw [nI_clamp (by omega), nI_clamp (by omega)]; omega)
        · rw [gA_at, nI_clamp (by omega), upd_ne (by omega)]; exact y2 j hj
        · rw [gA_at, nI_clamp (by omega)]
          by_cases e : j = i
          · rw [e, upd_at]
          · rw [upd_ne (by omega)]; exact y3 j (by omega)
      · have ei : i = b := by omega
        subst ei
        refine br_t (by (first | omega | (simp (disch := omega) only [Int32.le_iff_toInt_le, Int32.lt_iff_toInt_lt, z_eq, z_in, nI_toInt, z_cl, z_m1, z_sg, z_255, Int32.reduceToInt] <;> omega) | (simp only [Int32.le_iff_toInt_le, Int32.lt_iff_toInt_lt, z_eq, z_in, z_add, z_sub, z_mul, z_neg, z_nI, z_cl, z_sg, z_255, z_lit, Int32.reduceToInt] <;> omega))) ?_
        refine lp_Mod_takeText_110 (fun a0 a1 a2 a3 z => nI m = a0 ∧ nI i = a1 ∧ nI (oF acc acc.length) = a2 ∧ ∃ k, nI k = a3 ∧ k ≤ m ∧ Fg no2 no2 no2 (fun a => a = 37) no1 x z ∧ (∀ j, j < oF acc acc.length → fA z 37 j = fA x 37 j) ∧ (∀ j, j < i → fA z 37 (oF acc acc.length + j) = (pvd acc (acc.length - 1)).2.getD j 0) ∧ ∀ j, j < k → fA z 37 (oF acc acc.length + i + j) = nI (T (p + j))) (fun _ _ _ a3 _ => m - a3.toNatClampNeg) ?_ _ _ _ _ _ ⟨rfl, rfl, rfl, 0, rfl, Nat.zero_le _, y1, y2, y3, fun j hj => absurd hj (Nat.not_lt_zero _)⟩
        rintro Q2 a0 a1 a2 a3 z ⟨rfl, rfl, rfl, k, rfl, k1, z1, z2, z3, z4⟩ ih2
        have I1 : ∀ k, fI z 0 k = fI x 0 k := fun k => z1.1 0 k id
        have N1 : ∀ o, fN z o = fN x o := fun o => by show z.2.2.2.2.2 o = _; rw [z1.2.2.2.2.2]
        have B34 : fA z 34 = fA x 34 := z1.2.2.2.1 34 (by decide)
        have B41 : fA z 41 = fA x 41 := z1.2.2.2.1 41 (by decide)
        have r34 := N1 34
        have r37 := N1 37
        have r41 := N1 41
        unfold j_Mod_takeText_110
        rw [nI_add]
        by_cases ck : k < m
        · refine br_f (by (first | omega | (simp (disch := omega) only [Int32.le_iff_toInt_le, Int32.lt_iff_toInt_lt, z_eq, z_in, nI_toInt, z_cl, z_m1, z_sg, z_255, Int32.reduceToInt] <;> omega) | (simp only [Int32.le_iff_toInt_le, Int32.lt_iff_toInt_lt, z_eq, z_in, z_add, z_sub, z_mul, z_neg, z_nI, z_cl, z_sg, z_255, z_lit, Int32.reduceToInt] <;> omega))) ?_
          rw [I1 67, hp, nI_add, nI_add]
          refine ⟨vp_in_nI (by omega) (by omega), vp_in_nI (by omega) (by omega), nm_e ?_⟩
          rw [rA_nI (by omega), B41, hF.2.2.2 _ (by omega), nI_1]
          refine ih2 _ _ _ _ _ ⟨rfl, rfl, rfl, k + 1, rfl, ck, Fg.trans z1 (Fg.a rfl), fun j hj => ?_, fun j hj => ?_, fun j hj => ?_⟩ (by rw [nI_clamp (by omega), nI_clamp (by omega)]; omega)
          · rw [gA_at, nI_clamp (by omega), upd_ne (by omega)]; exact z2 j hj
          · rw [gA_at, nI_clamp (by omega), upd_ne (by omega)]; exact z3 j hj
          · rw [gA_at, nI_clamp (by omega)]
            by_cases e : j = k
            · rw [e, upd_at]
            · rw [upd_ne (by omega)]; exact z4 j (by omega)
        · have ek : k = m := by omega
          subst ek
          refine br_t (by (first | omega | (simp (disch := omega) only [Int32.le_iff_toInt_le, Int32.lt_iff_toInt_lt, z_eq, z_in, nI_toInt, z_cl, z_m1, z_sg, z_255, Int32.reduceToInt] <;> omega) | (simp only [Int32.le_iff_toInt_le, Int32.lt_iff_toInt_lt, z_eq, z_in, z_add, z_sub, z_mul, z_neg, z_nI, z_cl, z_sg, z_255, z_lit, Int32.reduceToInt] <;> omega))) ?_
          rw [I1 67, hp, nI_add]
          refine nm_e ?_
          rw [show fI (setI z 0 67 (nI (p + k))) 0 58 = nI acc.length from (gI_ne (by decide)).trans ((I1 58).trans n1), nI_1]
          refine nm_e ?_
          rw [show fI (setI (setI z 0 67 (nI (p + k))) 0 58 (nI (acc.length + 1))) 0 58 = nI (acc.length + 1) from gI_at, nI_add]
          refine ⟨vp_in_nI (by show _ < fN z 34; omega) (by show fN z 34 < _; omega), nm_e ?_⟩
          have ln : ((pvd acc (acc.length - 1)).2.take i ++ txs T p k).length = i + k := by rw [List.length_append, tk, txs_len]
          have lnn : (acc ++ [((0 : Int64), (pvd acc (acc.length - 1)).2.take i ++ txs T p k)]).length = acc.length + 1 := by rw [List.length_append]; rfl
          have o2 : oF (acc ++ [((0 : Int64), (pvd acc (acc.length - 1)).2.take i ++ txs T p k)]) (acc.length + 1) = oF acc acc.length + i + k := by
            rw [oF_a2]
            show _ + ((pvd acc (acc.length - 1)).2.take i ++ txs T p k).length = _
            rw [ln]; omega
          have a69 : fI (setI (setI z 0 67 (nI (p + k))) 0 58 (nI (acc.length + 1))) 0 69 = 0 := (gI_ne (by decide)).trans ((gI_ne (by decide)).trans ((I1 69).trans h0))
          have a67 : fI (setI (setI z 0 67 (nI (p + k))) 0 58 (nI (acc.length + 1))) 0 67 = nI (p + k) := (gI_ne (by decide)).trans gI_at
          have a58 : fI (setI (setI z 0 67 (nI (p + k))) 0 58 (nI (acc.length + 1))) 0 58 = nI (acc.length + 1) := gI_at
          refine pk _ c1 c2 (Fg.trans (z1.mono (fun _ _ w => w.elim) (fun _ _ w => w) (fun _ _ w => w) (fun _ w => Or.inr w) (fun _ w => w)) (Fg.trans (Fg.i ⟨rfl, by decide⟩) (Fg.trans (Fg.i ⟨rfl, by decide⟩) (Fg.a (Or.inl rfl))))) a69 a67 ⟨by rw [lnn]; exact a58, by rw [lnn]; omega, by rw [lnn, o2]; omega, fun j hj => ?_, fun j hj i' hi' => ?_⟩
          · rw [lnn] at hj
            show upd (fA z 34) _ _ j = _
            rw [nI_clamp (by omega)]
            by_cases e : j = acc.length + 1
            · rw [e, upd_at, o2]
            · rw [upd_ne (by omega), B34, oF_a1 _ (by omega)]; exact n4 j (by omega)
          · rw [lnn] at hj
            show fA z 37 _ = _
            by_cases e : j = acc.length
            · subst e
              rw [pv_last] at hi' ⊢
              have hi' : i' < ((pvd acc (acc.length - 1)).2.take i ++ txs T p k).length := hi'
              rw [ln] at hi'
              rw [oF_a1 _ (Nat.le_refl _)]
              show _ = ((pvd acc (acc.length - 1)).2.take i ++ txs T p k).getD i' 0
              rw [List.getD_eq_getElem?_getD]
              by_cases c : i' < i
              · rw [List.getElem?_append_left (by omega), List.getElem?_take, if_pos c, ← List.getD_eq_getElem?_getD]
                exact z3 i' c
              · rw [List.getElem?_append_right (by omega), tk, ← List.getD_eq_getElem?_getD, txs_at (by omega), show oF acc acc.length + i' = oF acc acc.length + i + (i' - i) by omega]
                exact z4 _ (by omega)
            · rw [pvd_a1 (by omega)] at hi' ⊢
              rw [oF_a1 _ (by omega)]
              have ho := oF_le (P := acc) (k := j + 1) (n := acc.length) (by omega)
              have ho2 : oF acc (j + 1) = oF acc j + (pvd acc j).2.length := rfl
              rw [z2 _ (by omega)]
              exact n5 j (by omega) i' hi'
end
