/-! the model reads bools and numbers -/
def NwW (y : St) (P : List PV) : Prop := ∀ k, k < P.length → fL y 31 k = (pvd P k).1
def WdW (y : St) (W : List PV) : Prop := fI y 0 59 = nI W.length ∧ W.length ≤ 1000 ∧ ∀ k, k < W.length → fL y 32 k = (pvd W k).1
abbrev FrVn (x y : St) : Prop := Fg (fun o k => o = 0 ∧ (k = 59 ∨ k = 67 ∨ k = 69 ∨ k = 71)) no2 no2 (fun a => a = 44) (fun a => a = 31 ∨ a = 32 ∨ a = 43) x y
section
variable {x : St} {T : Nat → Nat} {n : Nat}
theorem FrRd.vn {y : St} (f : FrRd x y) : FrVn x y := f.mono (fun _ _ z => ⟨z.1, by omega⟩) (fun _ _ z => z) (fun _ _ z => z) (fun _ z => z.elim) (fun _ z => z.elim)
theorem FrRg.vn {y : St} (f : FrRg x y) : FrVn x y := f.mono (fun _ _ z => ⟨z.1, by omega⟩) (fun _ _ z => z) (fun _ _ z => z) (fun _ z => z.elim) (fun _ z => by omega)
theorem FrRw.vn {y : St} (f : FrRw 44 x y) : FrVn x y := f.mono (fun _ _ z => ⟨z.1, by omega⟩) (fun _ _ z => z) (fun _ _ z => z) (fun _ z => z) (fun _ z => z.elim)
theorem FrVn.vl {y : St} (f : FrVn x y) : FrVl x y := f.mono (fun _ _ z => ⟨z.1, by omega⟩) (fun _ _ z => z) (fun _ _ z => z) (fun _ z => by omega) (fun _ z => z)
theorem FrVn.fi {y : St} (f : FrVn x y) (h : FiM x T n) : FiM y T n := h.cg (f.2.2.2.1 41 (by decide)) (fun o => by show y.2.2.2.2.2 o = _; rw [f.2.2.2.2.2])
end
section
variable {x : St} {T : Nat → Nat} {n st p : Nat}
theorem pvd_map {α : Type} [Inhabited α] {L : List α} {f : α → PV} {k : Nat} (h : k < L.length) : pvd (L.map f) k = f (L[k]) := by
  unfold pvd
  rw [List.getD_eq_getElem?_getD, List.getElem?_map, List.getElem?_eq_getElem h]
  rfl
theorem s_bl0 {post : St → Prop} {m : Nat} {how : Int32} (hF : FiM x T n) (h0 : fI x 0 69 = 0) (hp : fI x 0 67 = nI p) (h68 : fI x 0 68 = nI st) (hps : p ≤ st) (hst : st ≤ n) (hm : m ≤ 1000) (hh : ¬ how = 1)
    (pe : ∀ e y, bl0 T m st p = .error e → FrVn x y → Flt y e → post y)
    (pk : ∀ P q y, bl0 T m st p = .ok (P, q) → FrVn x y → fI y 0 69 = 0 → fI y 0 67 = nI q → q ≤ st → NwW y P → P.length = m → post y) : wp_Mod_readBools post how (nI m) x := by
  have hn := hF.2.1
  have hT := hF.2.2.1
  have e31 : fN x 31 = 1000 := hF.1 31
  have e41 : fN x 41 = 40000 := hF.1 41
  have e8 : (nI m + 7) / 8 = nI ((m + 7) / 8) := by rw [show (7 : Int32) = nI 7 from rfl, nI_add, show (8 : Int32) = nI 8 from rfl, nI_dv (by omega) (by decide) (by decide)]
  have e88 : nI ((m + 7) / 8) * 8 = nI (8 * ((m + 7) / 8)) := by rw [show (8 : Int32) = nI 8 from rfl, nI_mul, Nat.mul_comm]
  unfold wp_Mod_readBools
  refine ⟨fun _ => ?_, fun z => absurd z hh⟩
  rw [h68, hp, nI_sub hps, e8]
  by_cases c1 : st < p + (m + 7) / 8
  · refine br_f (by (first | omega | (simp (disch := omega) only [Int32.le_iff_toInt_le, Int32.lt_iff_toInt_lt, z_eq, z_in, nI_toInt, z_cl, z_m1, z_sg, z_255, Int32.reduceToInt] <;> omega) | (simp only [Int32.le_iff_toInt_le, Int32.lt_iff_toInt_lt, z_eq, z_in, z_add, z_sub, z_mul, z_neg, z_nI, z_cl, z_sg, z_255, z_lit, Int32.reduceToInt] <;> omega))) (nm_e ?_)
    have eb : bl0 T m st p = .error 1 := if_pos c1
    have fl : Flt (setI x 0 69 1) 1 := ⟨gI_at, by decide, by decide⟩
    unfold j_Mod_readBools_101
    refine ⟨1, ?_⟩
    unfold wl_Mod_readBools_103 j_Mod_readBools_103
    have ends : j_Mod_readBools_181 post how (nI m) 0 (setI x 0 69 1) := by
      unfold j_Mod_readBools_181
      exact nm_e (pe 1 _ eb (Fg.trans (Fg.i ⟨rfl, by decide⟩) (Fg.i ⟨rfl, by decide⟩)) ⟨(gI_ne (by decide)).trans gI_at, by decide, by decide⟩)
    by_cases c : (nI m + 7) / 8 * 8 ≤ 0
    · exact br_t c ends
    · exact br_f c ⟨fun _ => ends, fun z => absurd z fl.ne⟩
  · refine br_t (by (first | omega | (simp (disch := omega) only [Int32.le_iff_toInt_le, Int32.lt_iff_toInt_lt, z_eq, z_in, nI_toInt, z_cl, z_m1, z_sg, z_255, Int32.reduceToInt] <;> omega) | (simp only [Int32.le_iff_toInt_le, Int32.lt_iff_toInt_lt, z_eq, z_in, z_add, z_sub, z_mul, z_neg, z_nI, z_cl, z_sg, z_255, z_lit, Int32.reduceToInt] <;> omega))) ?_
    have eb : bl0 T m st p = if ∃ j, j < 8 * ((m + 7) / 8) ∧ m ≤ j ∧ btN T p j = 1 then .error 5 else .ok ((List.range m).map (fun j => (lN (btN T p j), [])), p + (m + 7) / 8) := if_neg c1
    unfold j_Mod_readBools_101
    refine lp_Mod_readBools_103 (fun a0 a1 a2 y => how = a0 ∧ nI m = a1 ∧ Fg (fun o k => o = 0 ∧ k = 69) no2 no2 no1 (fun a => a = 31) x y ∧ ∃ k, nI k = a2 ∧ k ≤ 8 * ((m + 7) / 8) ∧ ((fI y 0 69 = 0 ∧ (¬ ∃ j, j < k ∧ m ≤ j ∧ btN T p j = 1) ∧ ∀ j, j < k → j < m → fL y 31 j = lN (btN T p j)) ∨ Flt y 5 ∧ ∃ j, j < k ∧ m ≤ j ∧ btN T p j = 1)) (fun _ _ a2 _ => 8 * ((m + 7) / 8) - a2.toNatClampNeg) ?_ _ _ _ _ ⟨rfl, rfl, Fg.refl x, 0, rfl, Nat.zero_le _, Or.inl ⟨h0, fun z => by obtain ⟨j, j1, -⟩ := z; omega, fun j hj => absurd hj (Nat.not_lt_zero _)⟩⟩
    rintro Q a0 a1 a2 y ⟨rfl, rfl, y1, k, rfl, k1, y2⟩ ih
    have I0 : ∀ k, k ≠ 69 → fI y 0 k = fI x 0 k := fun k hk => y1.1 0 k (fun w => hk w.2)
    have N0 : ∀ o, fN y o = fN x o := fun o => by show y.2.2.2.2.2 o = _; rw [y1.2.2.2.2.2]
    have A41 : fA y 41 = fA x 41 := y1.2.2.2.1 41 id
    have n31 := N0 31
    have n41 := N0 41
    have fy : FrVn x y := y1.mono (fun _ _ w => ⟨w.1, by omega⟩) (fun _ _ w => w) (fun _ _ w => w) (fun _ w => w.elim) (fun _ w => Or.inl w)
    have y67 : fI y 0 67 = nI p := (I0 67 (by decide)).trans hp
    have finE : (∃ j, j < 8 * ((m + 7) / 8) ∧ m ≤ j ∧ btN T p j = 1) → Flt y 5 → ∀ l, j_Mod_readBools_181 post how (nI m) l y := fun hx hf l => by
      unfold j_Mod_readBools_181
      exact nm_e (pe 5 _ (by rw [eb, if_pos hx]) (Fg.trans fy (Fg.i ⟨rfl, by decide⟩)) ⟨(gI_ne (by decide)).trans hf.1, hf.2⟩)
    unfold j_Mod_readBools_103
    rw [e8, e88]
    by_cases c : k < 8 * ((m + 7) / 8)
    · refine br_f (by (first | omega | (simp (disch := omega) only [Int32.le_iff_toInt_le, Int32.lt_iff_toInt_lt, z_eq, z_in, nI_toInt, z_cl, z_m1, z_sg, z_255, Int32.reduceToInt] <;> omega) | (simp only [Int32.le_iff_toInt_le, Int32.lt_iff_toInt_lt, z_eq, z_in, z_add, z_sub, z_mul, z_neg, z_nI, z_cl, z_sg, z_255, z_lit, Int32.reduceToInt] <;> omega))) ?_
      rcases y2 with ⟨q1, q2, q3⟩ | ⟨q1, q2⟩
      · refine ⟨fun w => absurd q1 w, fun _ => ?_⟩
        have hTk := hT (p + k / 8)
        have bl := btN_le (T := T) p k
        rw [y67, nI_r8 (by omega), show nI k / 8 = nI (k / 8) from by rw [show (8 : Int32) = nI 8 from rfl, nI_dv (by omega) (by decide) (by decide)], nI_add]
        refine ⟨vp_in_nI (by omega) (by omega), nm_r (e' := nI (btN T p k)) (by rw [rA_nI (by omega), A41, hF.2.2.2 _ (by omega), by_bit hTk (by omega)]; rfl) ?_⟩
        have nx : ∀ (z : St), Fg (fun o k => o = 0 ∧ k = 69) no2 no2 no1 (fun a => a = 31) x z → ((fI z 0 69 = 0 ∧ (¬ ∃ j, j < k + 1 ∧ m ≤ j ∧ btN T p j = 1) ∧ ∀ j, j < k + 1 → j < m → fL z 31 j = lN (btN T p j)) ∨ Flt z 5 ∧ ∃ j, j < k + 1 ∧ m ≤ j ∧ btN T p j = 1) → ∀ l4, j_Mod_readBools_175 post Q how (nI m) (nI k) l4 z := fun z z1 z2 l4 => by
          unfold j_Mod_readBools_175
          rw [nI_1]
          exact ih _ _ _ _ ⟨rfl, rfl, z1, k + 1, rfl, c, z2⟩ (by rw [nI_clamp (by omega), nI_clamp (by omega)]; omega)
        by_cases cm : m ≤ k
        · refine br_t (by (first | omega | (simp (disch := omega) only [Int32.le_iff_toInt_le, Int32.lt_iff_toInt_lt, z_eq, z_in, nI_toInt, z_cl, z_m1, z_sg, z_255, Int32.reduceToInt] <;> omega) | (simp only [Int32.le_iff_toInt_le, Int32.lt_iff_toInt_lt, z_eq, z_in, z_add, z_sub, z_mul, z_neg, z_nI, z_cl, z_sg, z_255, z_lit, Int32.reduceToInt] <;> omega))) ?_
          by_cases cb : btN T p k = 1
          · exact ⟨fun w => absurd (by rw [cb]; rfl) w, fun _ => nm_e (nx _ (Fg.trans y1 (Fg.i ⟨rfl, rfl⟩)) (Or.inr ⟨⟨gI_at, by decide, by decide⟩, k, by omega, cm, cb⟩) _)⟩
          · refine ⟨fun _ => nx y y1 (Or.inl ⟨q1, fun z => ?_, fun j hj hjm => q3 j (by omega) hjm⟩) _, fun w => absurd (nI_inj (b := 1) (by omega) (by decide) w) cb⟩
            obtain ⟨j, j1, j2, j3⟩ := z
            by_cases ej : j = k
            · rw [ej] at j3; exact cb j3
            · exact q2 ⟨j, by omega, j2, j3⟩
        · refine br_f (by (first | omega | (simp (disch := omega) only [Int32.le_iff_toInt_le, Int32.lt_iff_toInt_lt, z_eq, z_in, nI_toInt, z_cl, z_m1, z_sg, z_255, Int32.reduceToInt] <;> omega) | (simp only [Int32.le_iff_toInt_le, Int32.lt_iff_toInt_lt, z_eq, z_in, z_add, z_sub, z_mul, z_neg, z_nI, z_cl, z_sg, z_255, z_lit, Int32.reduceToInt] <;> omega))) ⟨vp_in_nI (by omega) (by omega), nm_e ?_⟩
          refine nx _ (Fg.trans y1 (Fg.l rfl)) (Or.inl ⟨q1, fun z => ?_, fun j hj hjm => ?_⟩) _
          · obtain ⟨j, j1, j2, j3⟩ := z
            omega
          · rw [gL_at, nI_clamp (by omega)]
            by_cases ej : j = k
            · rw [ej, updL_at]; exact nI_l (by omega)
            · rw [updL_ne ej]; exact q3 j (by omega) hjm
      · obtain ⟨j, j1, j2, j3⟩ := q2
        exact ⟨fun _ => finE ⟨j, by omega, j2, j3⟩ q1 _, fun w => absurd w q1.ne⟩
    · have ek : k = 8 * ((m + 7) / 8) := by omega
      subst ek
      refine br_t (by (first | omega | (simp (disch := omega) only [Int32.le_iff_toInt_le, Int32.lt_iff_toInt_lt, z_eq, z_in, nI_toInt, z_cl, z_m1, z_sg, z_255, Int32.reduceToInt] <;> omega) | (simp only [Int32.le_iff_toInt_le, Int32.lt_iff_toInt_lt, z_eq, z_in, z_add, z_sub, z_mul, z_neg, z_nI, z_cl, z_sg, z_255, z_lit, Int32.reduceToInt] <;> omega))) ?_
      rcases y2 with ⟨q1, q2, q3⟩ | ⟨q1, q2⟩
      · unfold j_Mod_readBools_181
        rw [e8, y67, nI_add]
        rw [if_neg q2] at eb
        have len : ((List.range m).map (fun j => ((lN (btN T p j) : Int64), ([] : List Int32)))).length = m := by rw [List.length_map, List.length_range]
        refine nm_e (pk _ _ _ eb (Fg.trans fy (Fg.i ⟨rfl, by decide⟩)) ((gI_ne (by decide)).trans q1) gI_at (by omega) (fun j hj => ?_) len)
        rw [len] at hj
        show fL y 31 j = _
        rw [q3 j (by omega) hj, pvd_map (by rw [List.length_range]; exact hj), List.getElem_range]
      · exact finE q2 q1 _
theorem s_bl1 {post : St → Prop} {m : Nat} (hF : FiM x T n) (h0 : fI x 0 69 = 0) (hp : fI x 0 67 = nI p) (h68 : fI x 0 68 = nI st) (hps : p ≤ st) (hst : st ≤ n) (hm : m ≤ 1000)
    (pe : ∀ e y, bl1 T m st p = .error e → FrVn x y → Flt y e → post y)
    (pk : ∀ P q y, bl1 T m st p = .ok (P, q) → FrVn x y → fI y 0 69 = 0 → fI y 0 67 = nI q → q ≤ st → NwW y P → P.length = m → post y) : wp_Mod_readBools post 1 (nI m) x := by
  have hT := hF.2.2.1
  have hn := hF.2.1
  have e44 : fN x 44 = 1008 := hF.1 44
  have e31 : fN x 31 = 1000 := hF.1 31
  have ends : ∀ (y : St) e, Flt y e → bl1 T m st p = .error e → FrVn x y → j_Mod_readBools_43 post 1 (nI m) y := fun y e hf he hy => by
    unfold j_Mod_readBools_43
    refine ⟨1, ?_⟩
    unfold wl_Mod_readBools_45 j_Mod_readBools_45
    by_cases c : nI m ≤ 0
    · exact br_t c (pe e y he hy hf)
    · exact br_f c ⟨fun _ => pe e y he hy hf, fun z => absurd z hf.ne⟩
  unfold wp_Mod_readBools
  refine ⟨fun z => absurd rfl z, fun _ => ?_⟩
  rw [h68, show (1 : Int32) = nI 1 from rfl]
  refine s_rns hF h0 hp hps hst (by decide) (by decide) (by omega) (by omega) (fun e y y1 y2 y3 => ?_) (fun L q y y1 y2 y3 y4 y5 => ?_)
  · exact ⟨fun _ => ends y e y3 (by unfold bl1; rw [y1]) y2.vn, fun w => absurd w y3.ne⟩
  · obtain ⟨r1, r2, r3, r4⟩ := rns_ok hT y1 hps
    have eb : bl1 T m st p = if q < st then .error 6 else .ok (L.map (fun v => (lN v, [])), q) := by unfold bl1; rw [y1]
    refine ⟨fun w => absurd y4 w, fun _ => ?_⟩
    rw [show fI y 0 68 = nI st from (y2.1 0 68 (by decide)).trans h68, y3]
    by_cases c : q < st
    · rw [if_pos c] at eb
      exact br_f (by (first | omega | (simp (disch := omega) only [Int32.le_iff_toInt_le, Int32.lt_iff_toInt_lt, z_eq, z_in, nI_toInt, z_cl, z_m1, z_sg, z_255, Int32.reduceToInt] <;> omega) | (simp only [Int32.le_iff_toInt_le, Int32.lt_iff_toInt_lt, z_eq, z_in, z_add, z_sub, z_mul, z_neg, z_nI, z_cl, z_sg, z_255, z_lit, Int32.reduceToInt] <;> omega))) (nm_e (ends _ 6 ⟨gI_at, by decide, by decide⟩ eb (Fg.trans y2.vn (Fg.i ⟨rfl, by decide⟩))))
    · rw [if_neg c] at eb
      refine br_t (by (first | omega | (simp (disch := omega) only [Int32.le_iff_toInt_le, Int32.lt_iff_toInt_lt, z_eq, z_in, nI_toInt, z_cl, z_m1, z_sg, z_255, Int32.reduceToInt] <;> omega) | (simp only [Int32.le_iff_toInt_le, Int32.lt_iff_toInt_lt, z_eq, z_in, z_add, z_sub, z_mul, z_neg, z_nI, z_cl, z_sg, z_255, z_lit, Int32.reduceToInt] <;> omega))) ?_
      unfold j_Mod_readBools_43
      refine lp_Mod_readBools_45 (fun a0 a1 a2 z => nI 1 = a0 ∧ nI m = a1 ∧ Fg no2 no2 no2 no1 (fun a => a = 31) y z ∧ ∃ k, nI k = a2 ∧ k ≤ m ∧ ∀ j, j < k → fL z 31 j = lN (L.getD j 0)) (fun _ _ a2 _ => m - a2.toNatClampNeg) ?_ _ _ _ _ ⟨rfl, rfl, Fg.refl y, 0, rfl, Nat.zero_le _, fun j hj => absurd hj (Nat.not_lt_zero _)⟩
      rintro Q a0 a1 a2 z ⟨rfl, rfl, z1, k, rfl, k1, z2⟩ ih
      have I0 : ∀ k, fI z 0 k = fI y 0 k := fun k => z1.1 0 k id
      have fz : FrVn x z := Fg.trans y2.vn (z1.mono (fun _ _ w => w.elim) (fun _ _ w => w) (fun _ _ w => w) (fun _ w => w.elim) (fun _ w => Or.inl w))
      have N0 : ∀ o, fN z o = fN x o := fun o => by show z.2.2.2.2.2 o = _; rw [fz.2.2.2.2.2]
      have n44 := N0 44
      have n31 := N0 31
      unfold j_Mod_readBools_45
      by_cases ck : k < m
      · refine br_f (by (first | omega | (simp (disch := omega) only [Int32.le_iff_toInt_le, Int32.lt_iff_toInt_lt, z_eq, z_in, nI_toInt, z_cl, z_m1, z_sg, z_255, Int32.reduceToInt] <;> omega) | (simp only [Int32.le_iff_toInt_le, Int32.lt_iff_toInt_lt, z_eq, z_in, z_add, z_sub, z_mul, z_neg, z_nI, z_cl, z_sg, z_255, z_lit, Int32.reduceToInt] <;> omega))) ⟨fun w => absurd ((I0 69).trans y4) w, fun _ => ⟨vp_in_nI (by omega) (by omega), vp_in_nI (by omega) (by omega), nm_e ?_⟩⟩
        have lt := r2 _ (getD_mem (B := L) (i := k) (by omega))
        rw [rA_nI (by omega), show fA z 44 = fA y 44 from z1.2.2.2.1 44 id, y5 k ck, show (nI (L.getD k 0)).toInt64 = lN (L.getD k 0) from nI_l (by omega), nI_1]
        refine ih _ _ _ _ ⟨rfl, rfl, Fg.trans z1 (Fg.l rfl), k + 1, rfl, ck, fun j hj => ?_⟩ (by rw [nI_clamp (by omega), nI_clamp (by omega)]; omega)
        rw [gL_at, nI_clamp (by omega)]
        by_cases e : j = k
        · rw [e, updL_at]
        · rw [updL_ne e]; exact z2 j (by omega)
      · have ek : k = m := by omega
        subst ek
        have len : (L.map (fun v => ((lN v : Int64), ([] : List Int32)))).length = k := by rw [List.length_map, r1]
        refine br_t (by (first | omega | (simp (disch := omega) only [Int32.le_iff_toInt_le, Int32.lt_iff_toInt_lt, z_eq, z_in, nI_toInt, z_cl, z_m1, z_sg, z_255, Int32.reduceToInt] <;> omega) | (simp only [Int32.le_iff_toInt_le, Int32.lt_iff_toInt_lt, z_eq, z_in, z_add, z_sub, z_mul, z_neg, z_nI, z_cl, z_sg, z_255, z_lit, Int32.reduceToInt] <;> omega))) (pk _ q z eb fz ((I0 69).trans y4) ((I0 67).trans y3) r4 (fun j hj => ?_) len)
        rw [len] at hj
        rw [z2 j hj, pvd_map (by omega), List.getD_eq_getElem?_getD, List.getElem?_eq_getElem (by omega)]
        rfl
theorem s_whole {post : Int64 → St → Prop} {ty : Nat} (hF : FiM x T n) (h0 : fI x 0 69 = 0) (hp : fI x 0 67 = nI p) (h68 : fI x 0 68 = nI st) (h38 : fI x 0 38 = nI ty) (hty : ty = 1 ∨ ty = 2) (hps : p ≤ st) (hst : st ≤ n)
    (pe : ∀ e y, fxd T (wid ty) st p = .error e → FrRd x y → Flt y e → ∀ v, post v y)
    (pk : ∀ v q y, fxd T (wid ty) st p = .ok (v, q) → FrRd x y → fI y 0 67 = nI q → fI y 0 69 = 0 → post (whV ty v) y) : wp_Mod_whole post x := by
  unfold wp_Mod_whole
  have go : ∀ w, w = wid ty → wp_Mod_fixed (fun (r1405 : Int64) (x1404 : St) => ((¬ (fI x1404 0 38) = 1 → post r1405 x1404) ∧ ((fI x1404 0 38) = 1 → post ((r1405 : Int64).toInt32 : Int32).toInt64 x1404))) (nI w) (fI x 0 68) x := fun w hw => by
    rw [h68]
    refine s_fxd hF h0 hp hps hst (by rw [hw]; unfold wid; split <;> decide) (fun e y y1 y2 y3 => ?_) (fun v q y y1 y2 y3 y4 => ?_)
    · rw [hw] at y1
      exact ⟨fun _ => pe e y y1 y2 y3 _, fun _ => pe e y y1 y2 y3 _⟩
    · rw [hw] at y1
      have y38 : fI y 0 38 = nI ty := (y2.1 0 38 (by decide)).trans h38
      have k := pk v q y y1 y2 y3 y4
      unfold whV at k
      rcases hty with c | c
      · rw [if_pos c] at k
        exact ⟨fun z => absurd (by rw [y38, c]; rfl) z, fun _ => k⟩
      · rw [if_neg (by omega)] at k
        exact ⟨fun _ => k, fun z => absurd (by rw [y38, c] at z; exact z) (by decide)⟩
  unfold wp_Mod_wide
  rcases hty with c | c
  · have hw := go 4 (by unfold wid; rw [if_pos c])
    refine ⟨fun z => absurd (by rw [h38, c]; rfl) z, fun _ => hw⟩
  · have hw := go 8 (by unfold wid; rw [if_neg (by omega)])
    exact ⟨fun _ => hw, fun z => absurd (by rw [h38, c] at z; exact z) (by decide)⟩
end
