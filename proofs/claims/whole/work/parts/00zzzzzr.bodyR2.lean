/-! the body of a page is read -/
def hvN (md : Nat) (D : List Nat) : Nat := (D.filter (fun d => decide (d = md))).length
/-- what a page's body holds: levels, values, words of its DICTIONARY -/
abbrev PgT : Type := List Nat × List Nat × List PV × List PV
def bdR (T : Nat → Nat) (ty mr md n som how : Nat) (lo hi : PV) (st p : Nat) : Rd PgT := match lvR T mr n st p with
  | .error e => .error e
  | .ok (R, q) => match lvR T md n st q with
    | .error e => .error e
    | .ok (D, q1) => if hvN md D ≠ som then .error 10 else match vlR T ty how som st q1 with
      | .error e => .error e
      | .ok (PW, q2) => if q2 < st then .error 6 else if som ≠ 0 ∧ kv ty (pvd PW.1 (mnF ty PW.1 (som - 1))) ≠ kv ty lo then .error 11 else if som ≠ 0 ∧ kv ty (pvd PW.1 (mxF ty PW.1 (som - 1))) ≠ kv ty hi then .error 12 else .ok ((R, D, PW.1, PW.2), q2)
abbrev FrBd (x y : St) : Prop := Fg (fun o k => o = 0 ∧ (k = 58 ∨ k = 59 ∨ k = 67 ∨ k = 69 ∨ k = 71)) no2 no2 (fun a => a = 28 ∨ a = 29 ∨ a = 34 ∨ a = 35 ∨ a = 37 ∨ a = 38 ∨ a = 44 ∨ a = 45 ∨ a = 46) (fun a => a = 31 ∨ a = 32 ∨ a = 43) x y
section
variable {x : St} {T : Nat → Nat} {n st p ty how : Nat}
theorem FrVl.bd {y : St} (f : FrVl x y) : FrBd x y := f.mono (fun _ _ z => z) (fun _ _ z => z) (fun _ _ z => z) (fun _ z => by omega) (fun _ z => z)
theorem FrRw.bd {r : Nat} {y : St} (hr : r = 28 ∨ r = 29) (f : FrRw r x y) : FrBd x y := f.mono (fun _ _ z => ⟨z.1, by omega⟩) (fun _ _ z => z) (fun _ _ z => z) (fun _ z => by omega) (fun _ z => z.elim)
theorem FrBd.fi {y : St} (f : FrBd x y) (h : FiM x T n) : FiM y T n := h.cg (f.2.2.2.1 41 (by decide)) (fun o => by show y.2.2.2.2.2 o = _; rw [f.2.2.2.2.2])
theorem hvN_take {md : Nat} {D : List Nat} {k : Nat} (h : k < D.length) : hvN md (D.take (k + 1)) = hvN md (D.take k) + (if D.getD k 0 = md then 1 else 0) := by
  unfold hvN
  rw [List.take_succ_eq_append_getElem h, List.filter_append, List.length_append]
  congr 1
  have e : D.getD k 0 = D[k] := by rw [List.getD_eq_getElem?_getD, List.getElem?_eq_getElem h]; rfl
  rw [e, List.filter_cons]
  by_cases c : D[k] = md
  · rw [if_pos c, decide_eq_true c]; rfl
  · rw [if_neg c, decide_eq_false c]; rfl
theorem okPv.v {v : PV} (h : okPv ty v) : okVv ty v := fun c => (h.1 c).1
theorem pvd_mem {P : List PV} {k : Nat} (h : k < P.length) : pvd P k ∈ P := by
  unfold pvd
  rw [List.getD_eq_getElem?_getD, List.getElem?_eq_getElem h]
  exact List.getElem_mem h
theorem s_body {post : St → Prop} {m som mr md : Nat} {lo hi : PV} (hF : FiM x T n) (h0 : fI x 0 69 = 0) (hp : fI x 0 67 = nI p) (h68 : fI x 0 68 = nI st) (h38 : fI x 0 38 = nI ty) (h39 : fI x 0 39 = nI mr) (h40 : fI x 0 40 = nI md) (hty : ty < 4) (hmr : mr ≤ 17) (hmd : md ≤ 17) (hh : how < nCod ty) (hps : p ≤ st) (hst : st ≤ n) (hm : m ≤ 1000) (hs : som ≤ m) (h34 : fA x 34 0 = 0) (hlo : som ≠ 0 → ToM x ty 0 lo ∧ ToM x ty 1 hi ∧ okVv ty lo ∧ okVv ty hi)
    (pe : ∀ e y, bdR T ty mr md m som how lo hi st p = .error e → FrBd x y → Flt y e → fA y 34 0 = 0 → post y)
    (pk : ∀ R D P W q y, bdR T ty mr md m som how lo hi st p = .ok ((R, D, P, W), q) → FrBd x y → fI y 0 69 = 0 → fI y 0 67 = nI q → R.length = m → D.length = m → P.length = som → (∀ i, i < m → fA y 28 i = nI (R.getD i 0) ∧ fA y 29 i = nI (D.getD i 0)) → NvM y ty P → WdM y ty how W → fA y 34 0 = 0 → post y) : wp_Mod_readBody post (nI m) (nI som) (nI how) x := by
  have hn := hF.2.1
  have hT := hF.2.2.1
  have e28 : fN x 28 = 1008 := hF.1 28
  have e29 : fN x 29 = 1008 := hF.1 29
  -- behind a fault of the levels: what is counted counts for nothing
  have cnt0 : ∀ (y : St) e, Flt y e → bdR T ty mr md m som how lo hi st p = .error e → FrBd x y → fA y 34 0 = 0 → ∃ d : Nat, wl_Mod_readBody_32 post d (nI m) (nI som) (nI how) 0 0 y := fun y e hf he hy hz => by
    have y29 : fN y 29 = 1008 := by show y.2.2.2.2.2 29 = _; rw [hy.2.2.2.2.2]; exact e29
    refine lp_Mod_readBody_32 (fun a0 a1 a2 a3 a4 u => nI m = a0 ∧ nI som = a1 ∧ nI how = a2 ∧ y = u ∧ ∃ k, nI k = a4 ∧ k ≤ m) (fun _ _ _ _ a4 _ => m - a4.toNatClampNeg) ?_ _ _ _ _ _ _ ⟨rfl, rfl, rfl, rfl, 0, rfl, Nat.zero_le _⟩
    rintro Q a0 a1 a2 a3 a4 u ⟨rfl, rfl, rfl, rfl, k, rfl, k1⟩ ih
    unfold j_Mod_readBody_32
    by_cases c : k < m
    · have nx : ∀ s0 s1, j_Mod_readBody_59 post Q (nI m) (nI som) (nI how) a3 (nI k) s0 s1 y := fun s0 s1 => by
        unfold j_Mod_readBody_59
        refine nm_e ?_
        rw [nI_1]
        exact ih _ _ _ _ _ _ ⟨rfl, rfl, rfl, rfl, k + 1, rfl, c⟩ (by rw [nI_clamp (by omega), nI_clamp (by omega)]; omega)
      exact br_f (by (first | omega | (simp (disch := omega) only [Int32.le_iff_toInt_le, Int32.lt_iff_toInt_lt, z_eq, z_in, nI_toInt, z_cl, z_m1, z_sg, z_255, Int32.reduceToInt] <;> omega) | (simp only [Int32.le_iff_toInt_le, Int32.lt_iff_toInt_lt, z_eq, z_in, z_add, z_sub, z_mul, z_neg, z_nI, z_cl, z_sg, z_255, z_lit, Int32.reduceToInt] <;> omega))) ⟨vp_in_nI (by omega) (by omega), fun _ => nx _ _, fun _ => nx _ _⟩
    · refine br_t (by (first | omega | (simp (disch := omega) only [Int32.le_iff_toInt_le, Int32.lt_iff_toInt_lt, z_eq, z_in, nI_toInt, z_cl, z_m1, z_sg, z_255, Int32.reduceToInt] <;> omega) | (simp only [Int32.le_iff_toInt_le, Int32.lt_iff_toInt_lt, z_eq, z_in, z_add, z_sub, z_mul, z_neg, z_nI, z_cl, z_sg, z_255, z_lit, Int32.reduceToInt] <;> omega))) ⟨fun _ => ?_, fun z => absurd z hf.ne⟩
      unfold j_Mod_readBody_87
      exact ⟨fun z => absurd z hf.ne, fun _ => pe e y he hy hf hz⟩
  have z34 : ∀ {y z : St}, fA y 34 0 = 0 → fA z 34 = fA y 34 → fA z 34 0 = 0 := fun h e => by rw [e]; exact h
  unfold wp_Mod_readBody
  rw [h39]
  refine s_lvR (r := 28) hF h0 hp h68 hps hst (by decide) (by omega) (by omega) hmr (fun e y y1 y2 y3 => ?_) (fun R q y y1 y2 y3 y4 y5 y6 y7 => ?_)
  · have eb : bdR T ty mr md m som how lo hi st p = .error e := by unfold bdR; rw [y1]
    have fy := y2.bd (Or.inl rfl)
    have y29 : fN y 29 = 1008 := (fy.fi hF).1 29
    rw [show fI y 0 40 = nI md from (fy.1 0 40 (by decide)).trans h40]
    refine s_lvR0 y3.ne (by omega) (by omega) hmd (fun z z1 => cnt0 z e ⟨(z1.1 0 69 id).trans y3.1, y3.2⟩ eb (Fg.trans fy (z1.mono (fun _ _ w => w.elim) (fun _ _ w => w) (fun _ _ w => w) (fun _ w => by omega) (fun _ w => w.elim))) ?_)
    exact z34 h34 ((z1.2.2.2.1 34 (by decide)).trans (y2.2.2.2.1 34 (by decide)))
  · have fy := y2.bd (Or.inl rfl)
    have Fy := fy.fi hF
    have y29 : fN y 29 = 1008 := Fy.1 29
    rw [show fI y 0 40 = nI md from (fy.1 0 40 (by decide)).trans h40]
    refine s_lvR (r := 29) Fy y3 y4 ((fy.1 0 68 (by decide)).trans h68) y5 hst (by decide) (by omega) (by omega) hmd (fun e z z1 z2 z3 => ?_) (fun D q1 z z1 z2 z3 z4 z5 z6 z7 => ?_)
    · exact cnt0 z e z3 (by unfold bdR; rw [y1]; simp only; rw [z1]) (Fg.trans fy (z2.bd (Or.inr rfl))) (z34 h34 ((z2.2.2.2.1 34 (by decide)).trans (y2.2.2.2.1 34 (by decide))))
    · have fz : FrBd x z := Fg.trans fy (z2.bd (Or.inr rfl))
      have Fz := fz.fi hF
      have z29 : fN z 29 = 1008 := Fz.1 29
      have Z34 : fA z 34 0 = 0 := z34 h34 ((z2.2.2.2.1 34 (by decide)).trans (y2.2.2.2.1 34 (by decide)))
      have Z28 : ∀ i, i < m → fA z 28 i = nI (R.getD i 0) := fun i hi => by
        rw [show fA z 28 = fA y 28 from z2.2.2.2.1 28 (by decide)]; exact y7 i hi
      have lz := lvR_ok hT z1 y5
      have eb : bdR T ty mr md m som how lo hi st p = (if hvN md D ≠ som then .error 10 else match vlR T ty how som st q1 with
        | .error e => .error e
        | .ok (PW, q2) => if q2 < st then .error 6 else if som ≠ 0 ∧ kv ty (pvd PW.1 (mnF ty PW.1 (som - 1))) ≠ kv ty lo then .error 11 else if som ≠ 0 ∧ kv ty (pvd PW.1 (mxF ty PW.1 (som - 1))) ≠ kv ty hi then .error 12 else .ok ((R, D, PW.1, PW.2), q2)) := by
        unfold bdR; rw [y1]; simp only; rw [z1]
      have I40 : fI z 0 40 = nI md := (fz.1 0 40 (by decide)).trans h40
      -- the values that there are
      refine lp_Mod_readBody_32 (fun a0 a1 a2 a3 a4 u => nI m = a0 ∧ nI som = a1 ∧ nI how = a2 ∧ z = u ∧ ∃ k, nI k = a4 ∧ k ≤ m ∧ a3 = nI (hvN md (D.take k)) ∧ hvN md (D.take k) ≤ k) (fun _ _ _ _ a4 _ => m - a4.toNatClampNeg) ?_ _ _ _ _ _ _ ⟨rfl, rfl, rfl, rfl, 0, rfl, Nat.zero_le _, rfl, Nat.le_refl _⟩
      rintro Q a0 a1 a2 a3 a4 u ⟨rfl, rfl, rfl, rfl, k, rfl, k1, rfl, k2⟩ ih
      unfold j_Mod_readBody_32
      by_cases c : k < m
      · have hk := hvN_take (md := md) (D := D) (k := k) (by omega)
        have lv := lz.2.1 _ (getD_mem (B := D) (i := k) (by omega))
        have nx : ∀ s, hvN md (D.take (k + 1)) = hvN md (D.take k) + s → s ≤ 1 → j_Mod_readBody_59 post Q (nI m) (nI som) (nI how) (nI (hvN md (D.take k))) (nI k) (nI s) (nI (hvN md (D.take k))) z := fun s hs1 hs2 => by
          unfold j_Mod_readBody_59
          refine nm_r (nI_add _ _) ?_
          rw [nI_1]
          exact ih _ _ _ _ _ _ ⟨rfl, rfl, rfl, rfl, k + 1, rfl, c, by rw [hs1], by omega⟩ (by rw [nI_clamp (by omega), nI_clamp (by omega)]; omega)
        refine br_f (by (first | omega | (simp (disch := omega) only [Int32.le_iff_toInt_le, Int32.lt_iff_toInt_lt, z_eq, z_in, nI_toInt, z_cl, z_m1, z_sg, z_255, Int32.reduceToInt] <;> omega) | (simp only [Int32.le_iff_toInt_le, Int32.lt_iff_toInt_lt, z_eq, z_in, z_add, z_sub, z_mul, z_neg, z_nI, z_cl, z_sg, z_255, z_lit, Int32.reduceToInt] <;> omega))) ⟨vp_in_nI (by omega) (by omega), ?_⟩
        rw [rA_nI (by omega), z7 k c, I40]
        by_cases cd : D.getD k 0 = md
        · rw [if_pos cd] at hk
          exact ⟨fun w => absurd (by rw [cd]) w, fun _ => nx 1 hk (Nat.le_refl _)⟩
        · rw [if_neg cd] at hk
          exact ⟨fun _ => nx 0 hk (Nat.zero_le _), fun w => absurd (nI_inj (by omega) (by omega) w) cd⟩
      · have ek : k = m := by omega
        subst ek
        rw [List.take_of_length_le (by omega)] at k2 ⊢
        refine br_t (by (first | omega | (simp (disch := omega) only [Int32.le_iff_toInt_le, Int32.lt_iff_toInt_lt, z_eq, z_in, nI_toInt, z_cl, z_m1, z_sg, z_255, Int32.reduceToInt] <;> omega) | (simp only [Int32.le_iff_toInt_le, Int32.lt_iff_toInt_lt, z_eq, z_in, z_add, z_sub, z_mul, z_neg, z_nI, z_cl, z_sg, z_255, z_lit, Int32.reduceToInt] <;> omega))) ⟨fun w => absurd z3 w, fun _ => ?_⟩
        by_cases c10 : hvN md D = som
        · rw [if_neg (fun w => w c10)] at eb
          refine br_t (by rw [c10]) ?_
          unfold j_Mod_readBody_87
          refine ⟨fun _ => ?_, fun w => absurd z3 w⟩
          -- behind a fault of the values
          have tail : ∀ (b : St) e l4 l5, Flt b e → bdR T ty mr md k som how lo hi st p = .error e → FrBd x b → fA b 34 0 = 0 → j_Mod_readBody_134 post (nI k) (nI som) (nI how) l4 l5 b := fun b e l4 l5 hf he hb hz => by
            unfold j_Mod_readBody_134 j_Mod_readBody_158 j_Mod_readBody_184
            exact ⟨fun _ => ⟨fun _ => ⟨fun _ => pe e b he hb hf hz, fun w => absurd w hf.ne⟩, fun w => absurd w hf.ne⟩, fun w => absurd w hf.ne⟩
          refine s_vlR Fz z3 z4 ((fz.1 0 68 (by decide)).trans h68) ((fz.1 0 38 (by decide)).trans h38) hty hh z5 hst (by omega) Z34 (fun e b b1 b2 b3 b4 => tail b e _ _ b3 (by rw [eb, b1]) (Fg.trans fz b2.bd) b4) (fun P W q2 b b1 b2 b3 b4 b5 b6 b7 b8 b9 => ?_)
          rw [b1] at eb
          simp only at eb
          obtain ⟨v1, v2, v3, v4, v5, v6⟩ := vlR_pv hty hT b1 z5
          have fb : FrBd x b := Fg.trans fz b2.bd
          have Fb := fb.fi hF
          have B38 : fI b 0 38 = nI ty := (fb.1 0 38 (by decide)).trans h38
          have rows : ∀ i, i < k → fA b 28 i = nI (R.getD i 0) ∧ fA b 29 i = nI (D.getD i 0) := fun i hi => by
            rw [show fA b 28 = fA z 28 from b2.2.2.2.1 28 (by decide), show fA b 29 = fA z 29 from b2.2.2.2.1 29 (by decide)]
            exact ⟨Z28 i hi, z7 i hi⟩
          unfold j_Mod_readBody_134
          refine ⟨fun w => absurd b3 w, fun _ => ?_⟩
          rw [show fI b 0 68 = nI st from (fb.1 0 68 (by decide)).trans h68, b4]
          by_cases c6 : q2 < st
          · rw [if_pos c6] at eb
            have t6 := tail (setI b 0 69 6) 6 (nI (hvN md D)) (nI k) ⟨gI_at, by decide, by decide⟩ eb (Fg.trans fb (Fg.i ⟨rfl, by decide⟩)) b9
            unfold j_Mod_readBody_134 at t6
            exact br_f (by (first | omega | (simp (disch := omega) only [Int32.le_iff_toInt_le, Int32.lt_iff_toInt_lt, z_eq, z_in, nI_toInt, z_cl, z_m1, z_sg, z_255, Int32.reduceToInt] <;> omega) | (simp only [Int32.le_iff_toInt_le, Int32.lt_iff_toInt_lt, z_eq, z_in, z_add, z_sub, z_mul, z_neg, z_nI, z_cl, z_sg, z_255, z_lit, Int32.reduceToInt] <;> omega))) (nm_e (t6.1 (Flt.ne ⟨gI_at, by decide, by decide⟩)))
          · rw [if_neg c6] at eb
            refine br_t (by (first | omega | (simp (disch := omega) only [Int32.le_iff_toInt_le, Int32.lt_iff_toInt_lt, z_eq, z_in, nI_toInt, z_cl, z_m1, z_sg, z_255, Int32.reduceToInt] <;> omega) | (simp only [Int32.le_iff_toInt_le, Int32.lt_iff_toInt_lt, z_eq, z_in, z_add, z_sub, z_mul, z_neg, z_nI, z_cl, z_sg, z_255, z_lit, Int32.reduceToInt] <;> omega))) ?_
            unfold j_Mod_readBody_158
            refine ⟨fun w => absurd b3 w, fun _ => ?_⟩
            by_cases cs : som = 0
            · rw [if_neg (fun w => w.1 cs), if_neg (fun w => w.1 cs)] at eb
              refine br_t (by rw [cs]; decide) ?_
              unfold j_Mod_readBody_184
              exact ⟨fun w => absurd b3 w, fun _ => br_t (by rw [cs]; decide) (pk R D P W q2 b eb fb b3 b4 y6 z6 b7 rows b6 b8 b9)⟩
            · obtain ⟨t1, t2, t3, t4⟩ := hlo cs
              have tm : ∀ {i : Nat} {v : PV}, ToM x ty i v → ToM b ty i v := fun {i v} h => by
                unfold ToM
                rw [show fL b 47 = fL x 47 from fb.2.2.2.2.1 47 (by decide), show fA b 48 = fA x 48 from fb.2.2.2.1 48 (by decide), show fA b 49 = fA x 49 from fb.2.2.2.1 49 (by decide)]
                exact h
              have okP' : ∀ j, j < P.length → okVv ty (pvd P j) := fun j hj => (v1 _ (pvd_mem hj)).v
              have ne : ¬ nI som ≤ 0 := by (first | omega | (simp (disch := omega) only [Int32.le_iff_toInt_le, Int32.lt_iff_toInt_lt, z_eq, z_in, nI_toInt, z_cl, z_m1, z_sg, z_255, Int32.reduceToInt] <;> omega) | (simp only [Int32.le_iff_toInt_le, Int32.lt_iff_toInt_lt, z_eq, z_in, z_add, z_sub, z_mul, z_neg, z_nI, z_cl, z_sg, z_255, z_lit, Int32.reduceToInt] <;> omega))
              have mn := mn_ok (ty := ty) (P := P) (v := lo) (by omega) okP' t3
              have mx := mx_ok (ty := ty) (P := P) (v := hi) (by omega) okP' t4
              rw [b7] at mn mx
              -- the greatest
              have great : ¬ (som ≠ 0 ∧ kv ty (pvd P (mnF ty P (som - 1))) ≠ kv ty lo) → j_Mod_readBody_184 post (nI k) (nI som) (nI how) (nI (hvN md D)) (nI k) b := fun w11 => by
                rw [if_neg w11] at eb
                unfold j_Mod_readBody_184
                refine ⟨fun w => absurd b3 w, fun _ => br_f ne ?_⟩
                rw [show (1 : Int32) = nI 1 from rfl, ← b7]
                refine s_isMost Fb.1 B38 hty b6 (by omega) okP' t4 (tm t2) (by decide) (fun g => ?_) (fun g => ?_)
                · rw [b7] at g
                  rw [if_neg (fun w => w.2 (mx.mp g))] at eb
                  exact ⟨fun _ => pk R D P W q2 b eb fb b3 b4 y6 z6 b7 rows b6 b8 b9, fun w => absurd w (by decide)⟩
                · rw [b7] at g
                  rw [if_pos ⟨cs, fun w => g (mx.mpr w)⟩] at eb
                  exact ⟨fun w => absurd rfl w, fun _ => nm_e (pe 12 _ eb (Fg.trans fb (Fg.i ⟨rfl, by decide⟩)) ⟨gI_at, by decide, by decide⟩ b9)⟩
              refine br_f ne ?_
              rw [show (0 : Int32) = nI 0 from rfl, ← b7]
              refine s_isMost Fb.1 B38 hty b6 (by omega) okP' t3 (tm t1) (by decide) (fun g => ?_) (fun g => ?_)
              · rw [b7] at g
                rw [b7]
                exact ⟨fun _ => great (fun w => w.2 (mn.mp g)), fun w => absurd w (by decide)⟩
              · rw [b7] at g
                rw [if_pos ⟨cs, fun w => g (mn.mpr w)⟩] at eb
                refine ⟨fun w => absurd rfl w, fun _ => nm_e ?_⟩
                have fl : Flt (setI b 0 69 11) 11 := ⟨gI_at, by decide, by decide⟩
                unfold j_Mod_readBody_184
                exact ⟨fun _ => pe 11 _ eb (Fg.trans fb (Fg.i ⟨rfl, by decide⟩)) fl b9, fun w => absurd w fl.ne⟩
        · rw [if_pos c10] at eb
          refine br_f (fun w => c10 (nI_inj (by omega) (by omega) w)) (nm_e ?_)
          have fl : Flt (setI z 0 69 10) 10 := ⟨gI_at, by decide, by decide⟩
          unfold j_Mod_readBody_87
          exact ⟨fun w => absurd w fl.ne, fun _ => pe 10 _ eb (Fg.trans fz (Fg.i ⟨rfl, by decide⟩)) fl Z34⟩
end
