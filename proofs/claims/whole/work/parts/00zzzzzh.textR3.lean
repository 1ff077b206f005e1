/-! the model reads texts in parts -/
/-- a length that is told, or what says that it is none -/
def tlI (v : Int64) : Int32 := if v < 0 then -1 else if v ≤ 255 then v.toInt32 else 256
theorem tlI_cases (v : Int64) : (255 < uL v ∧ (tlI v = -1 ∨ tlI v = 256)) ∨ (uL v ≤ 255 ∧ tlI v = nI (uL v)) := by
  have q := @uL_le v
  unfold tlI
  by_cases c1 : v < 0
  · rw [if_pos c1]
    refine Or.inl ⟨?_, Or.inl rfl⟩
    rcases Nat.lt_or_ge 255 (uL v) with z | z
    · exact z
    · exact absurd (q.mpr z).1 (Int64.not_le.mpr c1)
  · rw [if_neg c1]
    by_cases c2 : v ≤ 255
    · rw [if_pos c2]
      refine Or.inr ⟨q.mp ⟨Int64.not_lt.mp c1, c2⟩, ?_⟩
      rw [← lN_uL v, lN_i, uL_lN (uL_lt _)]
    · rw [if_neg c2]
      refine Or.inl ⟨?_, Or.inr rfl⟩
      rcases Nat.lt_or_ge 255 (uL v) with z | z
      · exact z
      · exact absurd (q.mpr z).2 c2
section
variable {x : St} {T : Nat → Nat} {n st p : Nat}
theorem s_tlI {post : Int32 → St → Prop} {v : Int64} (k : post (tlI v) x) : wp_Mod_toldLength post v x := by
  unfold wp_Mod_toldLength
  unfold tlI at k
  rw [lg_cmp_ge, lg_cmp_le]
  by_cases c1 : v < 0
  · rw [if_pos c1] at k
    exact br_f (Int64.not_le.mpr c1) k
  · rw [if_neg c1] at k
    refine br_t (Int64.not_lt.mp c1) ?_
    by_cases c2 : v ≤ 255
    · rw [if_pos c2] at k; exact br_t c2 k
    · rw [if_neg c2] at k; exact br_f c2 k
abbrev FrFr (x y : St) : Prop := Fg (fun o k => o = 0 ∧ (k = 58 ∨ k = 67 ∨ k = 69 ∨ k = 71)) no2 no2 (fun a => a = 34 ∨ a = 37 ∨ a = 45 ∨ a = 46) (fun a => a = 43) x y
theorem FrFr.vl {y : St} (f : FrFr x y) : FrVl x y := f.mono (fun _ _ z => ⟨z.1, by omega⟩) (fun _ _ z => z) (fun _ _ z => z) (fun _ z => by omega) (fun _ z => by omega)
theorem FrFr.fi {y : St} (f : FrFr x y) (h : FiM x T n) : FiM y T n := h.cg (f.2.2.2.1 41 (by decide)) (fun o => by show y.2.2.2.2.2 o = _; rw [f.2.2.2.2.2])
theorem FrRg.fr {y : St} (f : FrRg x y) : FrFr x y := f.mono (fun _ _ z => ⟨z.1, by omega⟩) (fun _ _ z => z) (fun _ _ z => z) (fun _ z => z.elim) (fun _ z => z)
theorem FrTk.fr {y : St} (f : FrTk x y) : FrFr x y := f.mono (fun _ _ z => ⟨z.1, by omega⟩) (fun _ _ z => z) (fun _ _ z => z) (fun _ z => by omega) (fun _ z => z.elim)
theorem s_tx2 {post : St → Prop} {m : Nat} (hF : FiM x T n) (h0 : fI x 0 69 = 0) (hp : fI x 0 67 = nI p) (h68 : fI x 0 68 = nI st) (hps : p ≤ st) (hst : st ≤ n) (hm : m ≤ 1000) (hN : NwT x [])
    (pe : ∀ e y, tx2 T m st p = .error e → FrVl x y → Flt y e → fA y 34 0 = 0 → post y)
    (pk : ∀ P q y, tx2 T m st p = .ok (P, q) → FrVl x y → fI y 0 69 = 0 → fI y 0 67 = nI q → q ≤ st → NwT y P → P.length = m → post y) : wp_Mod_readFront post (nI m) x := by
  have hT := hF.2.2.1
  unfold wp_Mod_readFront
  have stop3 : ∀ (y : St) d l1 l2 e, Flt y e → tx2 T m st p = .error e → FrVl x y → fA y 34 0 = 0 → wl_Mod_readFront_89 post (d + 1) l1 l2 y := fun y d l1 l2 e hf he hy hz => by
    unfold wl_Mod_readFront_89 j_Mod_readFront_89
    by_cases c : l1 ≤ l2
    · exact br_t c (pe e y he hy hf hz)
    · exact br_f c ⟨fun _ => pe e y he hy hf hz, fun z => absurd z hf.ne⟩
  have stop2 : ∀ (y : St) l1 l2 e, Flt y e → tx2 T m st p = .error e → FrVl x y → fA y 34 0 = 0 → j_Mod_readFront_52 post l1 l2 y := fun y l1 l2 e hf he hy hz => by
    unfold j_Mod_readFront_52
    refine ⟨1, ?_⟩
    unfold wl_Mod_readFront_54 j_Mod_readFront_54
    by_cases c : l1 ≤ 0
    · refine br_t c ?_
      unfold j_Mod_readFront_87
      exact ⟨1, stop3 y 0 _ _ e hf he hy hz⟩
    · refine br_f c ⟨fun _ => ?_, fun z => absurd z hf.ne⟩
      unfold j_Mod_readFront_87
      exact ⟨1, stop3 y 0 _ _ e hf he hy hz⟩
  have stop1 : ∀ (y : St) e, Flt y e → tx2 T m st p = .error e → FrVl x y → fA y 34 0 = 0 → ∃ d : Nat, wl_Mod_readFront_7 post d (nI m) 0 y := fun y e hf he hy hz => by
    refine ⟨1, ?_⟩
    unfold wl_Mod_readFront_7 j_Mod_readFront_7
    have go : j_Mod_readFront_40 post (nI m) 0 y := by
      unfold j_Mod_readFront_40
      exact ⟨fun _ => stop2 y _ _ e hf he hy hz, fun z => absurd z hf.ne⟩
    by_cases c : nI m ≤ 0
    · exact br_t c go
    · exact br_f c ⟨fun _ => go, fun z => absurd z hf.ne⟩
  refine s_cde hF h0 hp h68 hps hst (by omega) (fun e y y1 y2 y3 => stop1 y e y3 (by unfold tx2; rw [y1]) y2.vl (y2.nw hN).z) (fun C q y y1 y2 y3 y4 y5 y6 y7 => ?_)
  have ec : tx2 T m st p = (match cde T m st q with | .error e => .error e | .ok (M, q1) => ftxF T st C M m [] q1) := by
    unfold tx2; rw [y1]
    simp only
    cases cde T m st q <;> rfl
  have Fy := y2.fi hF
  have e45 : fN x 45 = 1000 := hF.1 45
  have e46 : fN x 46 = 1000 := hF.1 46
  have e34 : fN x 34 = 1001 := hF.1 34
  have e43 : fN x 43 = 2000 := hF.1 43
  -- the texts themselves
  have texts : ∀ (M : List Int64) d acc q (z : St), M.length = m → acc.length + d = m → FrFr x z → FiM z T n → fI z 0 69 = 0 → fI z 0 67 = nI q → q ≤ st → NwT z acc → (∀ k, k < m → fA z 45 k = tlI (C.getD k 0) ∧ fA z 46 k = tlI (M.getD k 0)) → tx2 T m st p = ftxF T st C M d acc q → wl_Mod_readFront_89 post (d + 1) (nI m) (nI acc.length) z := by
    intro M d
    induction d with
    | zero =>
      intro acc q z hM hd z1 z2 z3 z4 z5 z6 z7 z8
      unfold wl_Mod_readFront_89 j_Mod_readFront_89
      exact br_t (by (first | omega | (simp (disch := omega) only [Int32.le_iff_toInt_le, Int32.lt_iff_toInt_lt, z_eq, z_in, nI_toInt, z_cl, z_m1, z_sg, z_255, Int32.reduceToInt] <;> omega) | (simp only [Int32.le_iff_toInt_le, Int32.lt_iff_toInt_lt, z_eq, z_in, z_add, z_sub, z_mul, z_neg, z_nI, z_cl, z_sg, z_255, z_lit, Int32.reduceToInt] <;> omega))) (pk acc q z z8 z1.vl z3 z4 z5 z6 (by omega))
    | succ d ih =>
      intro acc q z hM hd z1 z2 z3 z4 z5 z6 z7 z8
      have N : ∀ o, fN z o = fN x o := fun o => by show z.2.2.2.2.2 o = _; rw [z1.2.2.2.2.2]
      have n45 := N 45
      have n46 := N 46
      have n34 := N 34
      have z68 : fI z 0 68 = nI st := (z1.1 0 68 (by decide)).trans h68
      obtain ⟨a45, a46⟩ := z7 acc.length (by omega)
      obtain ⟨w1, w2, w3, w4, w5⟩ := id z6
      have e8 : tx2 T m st p = (if (pvd acc (acc.length - 1)).2.length < uL (C.getD acc.length 0) ∨ 255 < uL (C.getD acc.length 0) + uL (M.getD acc.length 0) then .error 7 else if st < q + uL (M.getD acc.length 0) then .error 1 else if 20000 < oF acc acc.length + uL (C.getD acc.length 0) + uL (M.getD acc.length 0) then .error 7 else ftxF T st C M d (acc ++ [(0, (pvd acc (acc.length - 1)).2.take (uL (C.getD acc.length 0)) ++ txs T q (uL (M.getD acc.length 0)))]) (q + uL (M.getD acc.length 0))) := z8
      have lastle : (pvd acc (acc.length - 1)).2.length ≤ 20000 := by
        by_cases c : acc.length = 0
        · have : acc = [] := List.length_eq_zero_iff.mp c
          rw [this]; exact Nat.zero_le _
        · have ho := oF_le (P := acc) (k := acc.length - 1 + 1) (n := acc.length) (by omega)
          have ho2 : oF acc (acc.length - 1 + 1) = oF acc (acc.length - 1) + (pvd acc (acc.length - 1)).2.length := rfl
          omega
      -- one text
      have one : j_Mod_readFront_124 post (wl_Mod_readFront_89 post (d + 1)) (nI m) (nI acc.length) (nI (pvd acc (acc.length - 1)).2.length) z := by
        have bad : ((pvd acc (acc.length - 1)).2.length < uL (C.getD acc.length 0) ∨ 255 < uL (C.getD acc.length 0) + uL (M.getD acc.length 0)) → j_Mod_readFront_172 post (wl_Mod_readFront_89 post (d + 1)) (nI m) (nI acc.length) (nI (pvd acc (acc.length - 1)).2.length) z := fun c => by
          rw [if_pos c] at e8
          unfold j_Mod_readFront_172 j_Mod_readFront_197
          exact nm_e (stop3 _ _ _ _ 7 ⟨gI_at, by decide, by decide⟩ e8 (Fg.trans z1.vl (Fg.i ⟨rfl, by decide⟩)) z6.z)
        unfold j_Mod_readFront_124
        have v45 : vp_in (nI acc.length) (fN z 45) := vp_in_nI (by omega) (by omega)
        have v46 : vp_in (nI acc.length) (fN z 46) := vp_in_nI (by omega) (by omega)
        refine ⟨v45, ?_⟩
        rw [rA_nI (by omega), rA_nI (by omega), a45, a46]
        rcases tlI_cases (C.getD acc.length 0) with ⟨c1, c2⟩ | ⟨c1, c2⟩
        · -- the length in common is none
          have b := bad (Or.inr (by omega))
          rcases c2 with c2 | c2
          · rw [c2]; exact br_t (by decide) b
          · rw [c2]
            refine br_f (by decide) ⟨v46, ?_⟩
            rcases tlI_cases (M.getD acc.length 0) with ⟨d1, d2⟩ | ⟨d1, d2⟩
            · rcases d2 with d2 | d2
              · rw [d2]; exact br_t (by decide) b
              · rw [d2]; exact br_f (by decide) ⟨v45, v46, br_t (by decide) b⟩
            · rw [d2, show (256 : Int32) = nI 256 from rfl, nI_add]
              exact br_f (nI_pos (by omega)) ⟨v45, v46, br_t (by (first | omega | (simp (disch := omega) only [Int32.le_iff_toInt_le, Int32.lt_iff_toInt_lt, z_eq, z_in, nI_toInt, z_cl, z_m1, z_sg, z_255, Int32.reduceToInt] <;> omega) | (simp only [Int32.le_iff_toInt_le, Int32.lt_iff_toInt_lt, z_eq, z_in, z_add, z_sub, z_mul, z_neg, z_nI, z_cl, z_sg, z_255, z_lit, Int32.reduceToInt] <;> omega))) b⟩
        · rw [c2]
          refine br_f (nI_pos (by omega)) ⟨v46, ?_⟩
          rcases tlI_cases (M.getD acc.length 0) with ⟨d1, d2⟩ | ⟨d1, d2⟩
          · have b := bad (Or.inr (by omega))
            rcases d2 with d2 | d2
            · rw [d2]; exact br_t (by decide) b
            · rw [d2, show (256 : Int32) = nI 256 from rfl, nI_add]
              exact br_f (by decide) ⟨v45, v46, br_t (by (first | omega | (simp (disch := omega) only [Int32.le_iff_toInt_le, Int32.lt_iff_toInt_lt, z_eq, z_in, nI_toInt, z_cl, z_m1, z_sg, z_255, Int32.reduceToInt] <;> omega) | (simp only [Int32.le_iff_toInt_le, Int32.lt_iff_toInt_lt, z_eq, z_in, z_add, z_sub, z_mul, z_neg, z_nI, z_cl, z_sg, z_255, z_lit, Int32.reduceToInt] <;> omega))) b⟩
          · rw [d2, nI_add]
            refine br_f (nI_pos (by omega)) ⟨v45, v46, ?_⟩
            by_cases f1 : 255 < uL (C.getD acc.length 0) + uL (M.getD acc.length 0)
            · exact br_t (by (first | omega | (simp (disch := omega) only [Int32.le_iff_toInt_le, Int32.lt_iff_toInt_lt, z_eq, z_in, nI_toInt, z_cl, z_m1, z_sg, z_255, Int32.reduceToInt] <;> omega) | (simp only [Int32.le_iff_toInt_le, Int32.lt_iff_toInt_lt, z_eq, z_in, z_add, z_sub, z_mul, z_neg, z_nI, z_cl, z_sg, z_255, z_lit, Int32.reduceToInt] <;> omega))) (bad (Or.inr f1))
            · refine br_f (by (first | omega | (simp (disch := omega) only [Int32.le_iff_toInt_le, Int32.lt_iff_toInt_lt, z_eq, z_in, nI_toInt, z_cl, z_m1, z_sg, z_255, Int32.reduceToInt] <;> omega) | (simp only [Int32.le_iff_toInt_le, Int32.lt_iff_toInt_lt, z_eq, z_in, z_add, z_sub, z_mul, z_neg, z_nI, z_cl, z_sg, z_255, z_lit, Int32.reduceToInt] <;> omega))) ⟨v45, ?_⟩
              by_cases f2 : uL (C.getD acc.length 0) ≤ (pvd acc (acc.length - 1)).2.length
              · refine br_t (by (first | omega | (simp (disch := omega) only [Int32.le_iff_toInt_le, Int32.lt_iff_toInt_lt, z_eq, z_in, nI_toInt, z_cl, z_m1, z_sg, z_255, Int32.reduceToInt] <;> omega) | (simp only [Int32.le_iff_toInt_le, Int32.lt_iff_toInt_lt, z_eq, z_in, z_add, z_sub, z_mul, z_neg, z_nI, z_cl, z_sg, z_255, z_lit, Int32.reduceToInt] <;> omega))) ⟨v46, v45, ?_⟩
                rw [if_neg (by omega)] at e8
                refine s_takeText (acc := acc) z2 z3 z4 z68 z5 hst d1 f2 c1 (by omega) z6 (fun e u u1 u2 u3 u0 => ?_) (fun u u1 u2 u3 u4 u5 u6 => ?_)
                · unfold j_Mod_readFront_197
                  refine stop3 u _ _ _ e u3 ?_ (Fg.trans z1.vl u2.vl) (by rw [u0]; exact z6.z)
                  rcases u1 with ⟨a, b⟩ | ⟨a, b, c'⟩
                  · rw [e8, if_pos a, b]
                  · rw [e8, if_neg a, if_pos b, c']
                · rw [if_neg u1, if_neg u2] at e8
                  unfold j_Mod_readFront_197
                  rw [nI_1]
                  have e1 : (acc ++ [((0 : Int64), (pvd acc (acc.length - 1)).2.take (uL (C.getD acc.length 0)) ++ txs T q (uL (M.getD acc.length 0)))]).length = acc.length + 1 := by rw [List.length_append]; rfl
                  have := ih _ (q + uL (M.getD acc.length 0)) u hM (by omega) (Fg.trans z1 u3.fr) (u3.fi z2) u4 u5 (by omega) u6 (fun k hk => by
                    have g1 : fA u 45 = fA z 45 := u3.2.2.2.1 45 (by decide)
                    have g2 : fA u 46 = fA z 46 := u3.2.2.2.1 46 (by decide)
                    rw [g1, g2]; exact z7 k hk) e8
                  rw [e1] at this
                  exact this
              · exact br_f (by (first | omega | (simp (disch := omega) only [Int32.le_iff_toInt_le, Int32.lt_iff_toInt_lt, z_eq, z_in, nI_toInt, z_cl, z_m1, z_sg, z_255, Int32.reduceToInt] <;> omega) | (simp only [Int32.le_iff_toInt_le, Int32.lt_iff_toInt_lt, z_eq, z_in, z_add, z_sub, z_mul, z_neg, z_nI, z_cl, z_sg, z_255, z_lit, Int32.reduceToInt] <;> omega))) (bad (Or.inl (by omega)))
      unfold wl_Mod_readFront_89 j_Mod_readFront_89
      refine br_f (by (first | omega | (simp (disch := omega) only [Int32.le_iff_toInt_le, Int32.lt_iff_toInt_lt, z_eq, z_in, nI_toInt, z_cl, z_m1, z_sg, z_255, Int32.reduceToInt] <;> omega) | (simp only [Int32.le_iff_toInt_le, Int32.lt_iff_toInt_lt, z_eq, z_in, z_add, z_sub, z_mul, z_neg, z_nI, z_cl, z_sg, z_255, z_lit, Int32.reduceToInt] <;> omega))) ⟨fun w => absurd z3 w, fun _ => ?_⟩
      by_cases c0 : acc.length = 0
      · refine ⟨fun w => absurd (by rw [c0]; rfl) w, fun _ => ?_⟩
        have ea : acc = [] := List.length_eq_zero_iff.mp c0
        have el : (pvd acc (acc.length - 1)).2.length = 0 := by rw [ea]; rfl
        rw [el] at one
        exact one
      · refine ⟨fun _ => ?_, fun w => absurd (nI_inj (b := 0) (by omega) (by decide) w) c0⟩
        rw [show nI acc.length - 1 = nI (acc.length - 1) from by rw [show (1 : Int32) = nI 1 from rfl, nI_sub (by omega)]]
        refine ⟨vp_in_nI (by omega) (by omega), vp_in_nI (by omega) (by omega), ?_⟩
        have eo : oF acc acc.length = oF acc (acc.length - 1) + (pvd acc (acc.length - 1)).2.length := by
          obtain ⟨l, hl'⟩ : ∃ l, acc.length = l + 1 := ⟨acc.length - 1, by omega⟩
          rw [hl']; rfl
        rw [rA_nI (by omega), rA_nI (by omega), w4 _ (Nat.le_refl _), w4 _ (by omega), nI_sub (by omega), show oF acc acc.length - oF acc (acc.length - 1) = (pvd acc (acc.length - 1)).2.length by omega]
        exact one
  -- the second lengths are kept
  have keep2 : ∀ (M : List Int64) (q1 : Nat) (w : St), FrFr x w → fI w 0 69 = 0 → fI w 0 67 = nI q1 → q1 ≤ st → NwT w [] → M.length = m → LgL w M → (∀ k, k < m → fA w 45 k = tlI (C.getD k 0)) → tx2 T m st p = ftxF T st C M m [] q1 → ∀ l2, j_Mod_readFront_52 post (nI m) l2 w := fun M q1 w w1 w2 w3 w4 w5 w6 w7 w8 w9 l2 => by
    unfold j_Mod_readFront_52
    refine lp_Mod_readFront_54 (fun a0 a1 z => nI m = a0 ∧ ∃ k, nI k = a1 ∧ k ≤ m ∧ Fg no2 no2 no2 (fun a => a = 46) no1 w z ∧ ∀ j, j < k → fA z 46 j = tlI (M.getD j 0)) (fun _ a1 _ => m - a1.toNatClampNeg) ?_ _ _ _ ⟨rfl, 0, rfl, Nat.zero_le _, Fg.refl w, fun j hj => absurd hj (Nat.not_lt_zero _)⟩
    rintro Q a0 a1 z ⟨rfl, k, rfl, k1, z1, z2⟩ ih
    have I0 : ∀ k, fI z 0 k = fI w 0 k := fun k => z1.1 0 k id
    have fz : FrFr x z := Fg.trans w1 (z1.mono (fun _ _ y => y.elim) (fun _ _ y => y) (fun _ _ y => y) (fun _ y => by omega) (fun _ y => y.elim))
    have N : ∀ o, fN z o = fN x o := fun o => by show z.2.2.2.2.2 o = _; rw [fz.2.2.2.2.2]
    have n43 := N 43
    have n46 := N 46
    unfold j_Mod_readFront_54
    by_cases c : k < m
    · refine br_f (by (first | omega | (simp (disch := omega) only [Int32.le_iff_toInt_le, Int32.lt_iff_toInt_lt, z_eq, z_in, nI_toInt, z_cl, z_m1, z_sg, z_255, Int32.reduceToInt] <;> omega) | (simp only [Int32.le_iff_toInt_le, Int32.lt_iff_toInt_lt, z_eq, z_in, z_add, z_sub, z_mul, z_neg, z_nI, z_cl, z_sg, z_255, z_lit, Int32.reduceToInt] <;> omega))) ⟨fun y => absurd ((I0 69).trans w2) y, fun _ => ⟨vp_in_nI (by omega) (by omega), ?_⟩⟩
      have l43 : fL z 43 k = M.getD k 0 := by
        show z.2.2.2.2.1 43 k = _
        rw [z1.2.2.2.2.1 43 id]
        exact w7 k (by omega)
      rw [rL_nI (by omega), l43]
      refine s_tlI ⟨vp_in_nI (by omega) (by omega), nm_e ?_⟩
      rw [nI_1]
      refine ih _ _ _ ⟨rfl, k + 1, rfl, c, Fg.trans z1 (Fg.a rfl), fun j hj => ?_⟩ (by rw [nI_clamp (by omega), nI_clamp (by omega)]; omega)
      rw [gA_at, nI_clamp (by omega)]
      by_cases e : j = k
      · rw [e, upd_at]
      · rw [upd_ne (by omega)]; exact z2 j (by omega)
    · have e : k = m := by omega
      subst e
      refine br_t (by (first | omega | (simp (disch := omega) only [Int32.le_iff_toInt_le, Int32.lt_iff_toInt_lt, z_eq, z_in, nI_toInt, z_cl, z_m1, z_sg, z_255, Int32.reduceToInt] <;> omega) | (simp only [Int32.le_iff_toInt_le, Int32.lt_iff_toInt_lt, z_eq, z_in, z_add, z_sub, z_mul, z_neg, z_nI, z_cl, z_sg, z_255, z_lit, Int32.reduceToInt] <;> omega))) ?_
      unfold j_Mod_readFront_87
      refine ⟨k + 1, texts M k [] q1 z w6 (by rw [List.length_nil]; omega) fz (fz.fi hF) ((I0 69).trans w2) ((I0 67).trans w3) w4 (w5.cg (I0 58) (z1.2.2.2.1 34 (by decide)) (z1.2.2.2.1 37 (by decide))) (fun j hj => ⟨?_, z2 j hj⟩) w9⟩
      rw [show fA z 45 = fA w 45 from z1.2.2.2.1 45 (by decide)]
      exact w8 j hj
  -- the first lengths are kept
  refine lp_Mod_readFront_7 (fun a0 a1 z => nI m = a0 ∧ ∃ k, nI k = a1 ∧ k ≤ m ∧ Fg no2 no2 no2 (fun a => a = 45) no1 y z ∧ ∀ j, j < k → fA z 45 j = tlI (C.getD j 0)) (fun _ a1 _ => m - a1.toNatClampNeg) ?_ _ _ _ ⟨rfl, 0, rfl, Nat.zero_le _, Fg.refl y, fun j hj => absurd hj (Nat.not_lt_zero _)⟩
  rintro Q a0 a1 z ⟨rfl, k, rfl, k1, z1, z2⟩ ih
  have I0 : ∀ k, fI z 0 k = fI y 0 k := fun k => z1.1 0 k id
  have fz : FrFr x z := Fg.trans y2.fr (z1.mono (fun _ _ w => w.elim) (fun _ _ w => w) (fun _ _ w => w) (fun _ w => by omega) (fun _ w => w.elim))
  have N : ∀ o, fN z o = fN x o := fun o => by show z.2.2.2.2.2 o = _; rw [fz.2.2.2.2.2]
  have n43 := N 43
  have n45 := N 45
  unfold j_Mod_readFront_7
  by_cases c : k < m
  · refine br_f (by (first | omega | (simp (disch := omega) only [Int32.le_iff_toInt_le, Int32.lt_iff_toInt_lt, z_eq, z_in, nI_toInt, z_cl, z_m1, z_sg, z_255, Int32.reduceToInt] <;> omega) | (simp only [Int32.le_iff_toInt_le, Int32.lt_iff_toInt_lt, z_eq, z_in, z_add, z_sub, z_mul, z_neg, z_nI, z_cl, z_sg, z_255, z_lit, Int32.reduceToInt] <;> omega))) ⟨fun w => absurd ((I0 69).trans y3) w, fun _ => ⟨vp_in_nI (by omega) (by omega), ?_⟩⟩
    have l43 : fL z 43 k = C.getD k 0 := by
      show z.2.2.2.2.1 43 k = _
      rw [z1.2.2.2.2.1 43 id]
      exact y7 k (by omega)
    rw [rL_nI (by omega), l43]
    refine s_tlI ⟨vp_in_nI (by omega) (by omega), nm_e ?_⟩
    rw [nI_1]
    refine ih _ _ _ ⟨rfl, k + 1, rfl, c, Fg.trans z1 (Fg.a rfl), fun j hj => ?_⟩ (by rw [nI_clamp (by omega), nI_clamp (by omega)]; omega)
    rw [gA_at, nI_clamp (by omega)]
    by_cases e : j = k
    · rw [e, upd_at]
    · rw [upd_ne (by omega)]; exact z2 j (by omega)
  · have e : k = m := by omega
    subst e
    refine br_t (by (first | omega | (simp (disch := omega) only [Int32.le_iff_toInt_le, Int32.lt_iff_toInt_lt, z_eq, z_in, nI_toInt, z_cl, z_m1, z_sg, z_255, Int32.reduceToInt] <;> omega) | (simp only [Int32.le_iff_toInt_le, Int32.lt_iff_toInt_lt, z_eq, z_in, z_add, z_sub, z_mul, z_neg, z_nI, z_cl, z_sg, z_255, z_lit, Int32.reduceToInt] <;> omega))) ?_
    unfold j_Mod_readFront_40
    refine ⟨fun w => absurd ((I0 69).trans y3) w, fun _ => ?_⟩
    refine s_cde (fz.fi hF) ((I0 69).trans y3) ((I0 67).trans y4) ((fz.1 0 68 (by decide)).trans h68) y5 hst (by omega) (fun e u u1 u2 u3 => stop2 u _ _ e u3 (by rw [ec, u1]) (Fg.trans fz.vl u2.vl) (u2.nw ((y2.nw hN).cg (I0 58) (z1.2.2.2.1 34 (by decide)) (z1.2.2.2.1 37 (by decide)))).z) (fun M q1 u u1 u2 u3 u4 u5 u6 u7 => ?_)
    refine keep2 M q1 u (Fg.trans fz u2.fr) u3 u4 u5 ?_ u6 u7 (fun j hj => ?_) (by rw [ec, u1]) _
    · exact u2.nw ((y2.nw hN).cg (I0 58) (z1.2.2.2.1 34 (by decide)) (z1.2.2.2.1 37 (by decide)))
    · rw [show fA u 45 = fA z 45 from u2.2.2.2.1 45 id]; exact z2 j hj
end
