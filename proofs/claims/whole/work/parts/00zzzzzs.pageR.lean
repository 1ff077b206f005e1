/-! a page is read, model -/
def lhR (T : Nat → Nat) (ty no n st p : Nat) : Rd (PV × PV) := if no < n then (match tld T ty st p with
    | .error e => .error e
    | .ok (lo, q) => match tld T ty st q with
      | .error e => .error e
      | .ok (hi, q1) => .ok ((lo, hi), q1)) else .ok (((0, []), (0, [])), p)
/-- behind the head: how many bytes, their check, and they themselves -/
def pgR3 (T : Nat → Nat) (ty mr md n no how : Nat) (lh : PV × PV) (st p : Nat) : Rd (Nat × PgT) := match vrd T st p with
  | .error e => .error e
  | .ok (sz, q) => match fxd T 4 st q with
    | .error e => .error e
    | .ok (sum, q1) => if st < q1 + sz then .error 1 else if crcS (fun i => nI (T i)) q1 (q1 + sz) ≠ (lN sum).toInt32 then .error 8 else match bdR T ty mr md n (n - no) how lh.1 lh.2 (q1 + sz) q1 with
      | .error e => .error e
      | .ok (d, _) => .ok ((how, d), q1 + sz)
def pgR2 (T : Nat → Nat) (ty mr md n no how st p : Nat) : Rd (Nat × PgT) := match lhR T ty no n st p with
  | .error e => .error e
  | .ok (lh, q) => pgR3 T ty mr md n no how lh st q
def pgR1 (T : Nat → Nat) (ty mr md n st p : Nat) : Rd (Nat × PgT) := match vrd T st p with
  | .error e => .error e
  | .ok (no, q) => if n < no then .error 7 else match fxd T 1 st q with
    | .error e => .error e
    | .ok (how, q1) => if nCod ty ≤ how then .error 7 else pgR2 T ty mr md n no how st q1
/-- a page: how it is coded, its levels, values, words -/
def pgR (T : Nat → Nat) (ty mr md st p : Nat) : Rd (Nat × PgT) := match vrd T st p with
  | .error e => .error e
  | .ok (n, q) => if n = 0 then .error 3 else if 1000 < n then .error 4 else pgR1 T ty mr md n st q
theorem lN_sb {a b : Nat} (h : b ≤ a) (_ : a < 2 ^ 64) : lN a - lN b = lN (a - b) := by
  have e : lN a = lN (a - b) + lN b := by
    rw [show lN (a - b) + lN b = lN (a - b + b) from (Int64.ofNat_add (a - b) b).symm, Nat.sub_add_cancel h]
  rw [e, Int64.add_sub_cancel]
abbrev FrPr (x y : St) : Prop := Fg (fun o k => o = 0 ∧ (k = 41 ∨ k = 42 ∨ k = 43 ∨ k = 58 ∨ k = 59 ∨ k = 67 ∨ k = 68 ∨ k = 69 ∨ k = 71)) no2 no2 (fun a => a = 28 ∨ a = 29 ∨ a = 34 ∨ a = 35 ∨ a = 37 ∨ a = 38 ∨ a = 44 ∨ a = 45 ∨ a = 46 ∨ a = 48 ∨ a = 49) (fun a => a = 31 ∨ a = 32 ∨ a = 43 ∨ a = 47) x y
section
variable {x : St} {T : Nat → Nat} {n st p ty : Nat}
theorem FrRd.pr {y : St} (f : FrRd x y) : FrPr x y := f.mono (fun _ _ z => ⟨z.1, by omega⟩) (fun _ _ z => z) (fun _ _ z => z) (fun _ z => z.elim) (fun _ z => z.elim)
theorem FrTo.pr {y : St} (f : FrTo x y) : FrPr x y := f.mono (fun _ _ z => ⟨z.1, by omega⟩) (fun _ _ z => z) (fun _ _ z => z) (fun _ z => by omega) (fun _ z => by omega)
theorem FrBd.pr {y : St} (f : FrBd x y) : FrPr x y := f.mono (fun _ _ z => ⟨z.1, by omega⟩) (fun _ _ z => z) (fun _ _ z => z) (fun _ z => by omega) (fun _ z => by omega)
theorem FrPr.fi {y : St} (f : FrPr x y) (h : FiM x T n) : FiM y T n := h.cg (f.2.2.2.1 41 (by decide)) (fun o => by show y.2.2.2.2.2 o = _; rw [f.2.2.2.2.2])
theorem s_flt {post : St → Prop} {b w : Int32} (h : ¬ fI x 0 69 = 0) (q : post x) : wp_Mod_faults post b w x := by
  unfold wp_Mod_faults
  exact ⟨fun _ => q, fun _ => ⟨fun _ => q, fun z => absurd z h⟩⟩
theorem s_fl0 {post : St → Prop} {w : Int32} (q : post x) : wp_Mod_faults post 0 w x := by
  unfold wp_Mod_faults
  exact ⟨fun _ => q, fun z => absurd rfl z⟩
theorem s_fl1 {post : St → Prop} {w : Int32} (h : fI x 0 69 = 0) (q : post (setI x 0 69 w)) : wp_Mod_faults post 1 w x := by
  unfold wp_Mod_faults
  exact ⟨fun z => absurd z (by decide), fun _ => ⟨fun z => absurd h z, fun _ => nm_e q⟩⟩
theorem s_cdg {post : Int32 → St → Prop} (h38 : fI x 0 38 = nI ty) (hty : ty < 4) (q : post (nI (nCod ty)) x) : wp_Mod_codings post x := by
  unfold wp_Mod_codings
  rw [h38]
  unfold nCod at q
  by_cases c0 : ty = 0
  · rw [if_pos c0] at q
    exact ⟨fun z => absurd (by rw [c0]; rfl) z, fun _ => q⟩
  · rw [if_neg c0] at q
    refine ⟨fun _ => ?_, fun z => absurd (nI_inj (b := 0) (by omega) (by decide) z) c0⟩
    by_cases c3 : ty = 3
    · rw [if_pos c3] at q
      exact ⟨fun z => absurd (by rw [c3]; rfl) z, fun _ => q⟩
    · rw [if_neg c3] at q
      exact ⟨fun _ => q, fun z => absurd (nI_inj (b := 3) (by omega) (by decide) z) c3⟩
theorem s_page {post : St → Prop} {mr md : Nat} (hF : FiM x T n) (h0 : fI x 0 69 = 0) (hp : fI x 0 67 = nI p) (h38 : fI x 0 38 = nI ty) (h39 : fI x 0 39 = nI mr) (h40 : fI x 0 40 = nI md) (hty : ty < 4) (hmr : mr ≤ 17) (hmd : md ≤ 17) (hps : p ≤ st) (hst : st ≤ n) (h34 : fA x 34 0 = 0)
    (pe : ∀ e y, pgR T ty mr md st p = .error e → FrPr x y → Flt y e → fA y 34 0 = 0 → post y)
    (pk : ∀ how R D P W q y, pgR T ty mr md st p = .ok ((how, R, D, P, W), q) → FrPr x y → fI y 0 69 = 0 → fI y 0 67 = nI q → q ≤ st → 0 < D.length → D.length ≤ 1000 → R.length = D.length → P.length ≤ D.length → how < nCod ty → fI y 0 41 = nI D.length → fI y 0 42 = nI P.length → fI y 0 43 = nI how → (∀ i, i < D.length → fA y 28 i = nI (R.getD i 0) ∧ fA y 29 i = nI (D.getD i 0)) → NvM y ty P → WdM y ty how W → fA y 34 0 = 0 → post y) : wp_Mod_readPage post (nI st) x := by
  have hn := hF.2.1
  have hT := hF.2.2.1
  have n4 : nCod ty ≤ 4 := by unfold nCod; split; decide; split <;> decide
  -- behind a fault
  have F7 : ∀ (y : St) e l1 l2 l4 l6 l7 l9 s0, Flt y e → pgR T ty mr md st p = .error e → FrPr x y → fA y 34 0 = 0 → j_Mod_readPage_207 post l1 l2 l4 l6 l7 l9 s0 y := fun y e l1 l2 l4 l6 l7 l9 s0 hf he hy hz => by
    unfold j_Mod_readPage_207
    exact s_flt hf.ne ⟨fun z => absurd z hf.ne, fun _ => pe e y he hy hf hz⟩
  have F6 : ∀ (y : St) e l1 l2 l4 l6 l7, Flt y e → pgR T ty mr md st p = .error e → FrPr x y → fA y 34 0 = 0 → j_Mod_readPage_156 post l1 l2 l4 l6 l7 y := fun y e l1 l2 l4 l6 l7 hf he hy hz => by
    unfold j_Mod_readPage_156
    refine s_vrd0 hf.ne (s_fxd0 hf.ne (nm_e ?_))
    unfold j_Mod_readPage_202
    exact ⟨fun _ => F7 y e _ _ _ _ _ _ _ hf he hy hz, fun _ => ⟨fun _ => F7 y e _ _ _ _ _ _ _ hf he hy hz, fun _ => F7 y e _ _ _ _ _ _ _ hf he hy hz⟩⟩
  have F5 : ∀ (y : St) e l1 l2 l4 l6 l7 d, Flt y e → pgR T ty mr md st p = .error e → FrPr x y → fA y 34 0 = 0 → wl_Mod_readPage_124 post (d + 1) l1 l2 l4 l6 l7 y := fun y e l1 l2 l4 l6 l7 d hf he hy hz => by
    unfold wl_Mod_readPage_124 j_Mod_readPage_124
    exact ⟨fun _ => F6 y e _ _ _ _ _ hf he hy hz, fun _ => ⟨fun _ => F6 y e _ _ _ _ _ hf he hy hz, fun z => absurd z hf.ne⟩⟩
  have F4 : ∀ (y : St) e l1 l2 l4 l6 s0, Flt y e → pgR T ty mr md st p = .error e → FrPr x y → fA y 34 0 = 0 → j_Mod_readPage_116 post l1 l2 l4 l6 s0 y := fun y e l1 l2 l4 l6 s0 hf he hy hz => by
    unfold j_Mod_readPage_116
    exact s_flt hf.ne ⟨1, F5 y e _ _ _ _ _ 0 hf he hy hz⟩
  have F3 : ∀ (y : St) e l1 l2 l4 s0, Flt y e → pgR T ty mr md st p = .error e → FrPr x y → fA y 34 0 = 0 → j_Mod_readPage_84 post l1 l2 l4 s0 y := fun y e l1 l2 l4 s0 hf he hy hz => by
    unfold j_Mod_readPage_84
    refine s_flt hf.ne (s_fxd0 hf.ne (nm_e (s_cdg (ty := ty) ((hy.1 0 38 (by decide)).trans h38) hty ⟨fun _ => F4 y e _ _ _ _ _ hf he hy hz, fun _ => F4 y e _ _ _ _ _ hf he hy hz⟩)))
  have F2 : ∀ (y : St) e l1 l2 s0, Flt y e → pgR T ty mr md st p = .error e → FrPr x y → fA y 34 0 = 0 → j_Mod_readPage_50 post l1 l2 s0 y := fun y e l1 l2 s0 hf he hy hz => by
    unfold j_Mod_readPage_50 j_Mod_readPage_79
    exact s_flt hf.ne (s_vrd0 hf.ne ⟨fun _ => F3 y e _ _ _ _ hf he hy hz, fun _ => ⟨fun _ => F3 y e _ _ _ _ hf he hy hz, fun _ => F3 y e _ _ _ _ hf he hy hz⟩⟩)
  have F1 : ∀ (y : St) e l1 l2 s0, Flt y e → pgR T ty mr md st p = .error e → FrPr x y → fA y 34 0 = 0 → j_Mod_readPage_26 post l1 l2 s0 y := fun y e l1 l2 s0 hf he hy hz => by
    unfold j_Mod_readPage_26 j_Mod_readPage_45
    exact s_flt hf.ne ⟨fun _ => F2 y e _ _ _ hf he hy hz, fun _ => ⟨fun _ => F2 y e _ _ _ hf he hy hz, fun _ => F2 y e _ _ _ hf he hy hz⟩⟩
  have flI : ∀ (y : St) e, 0 < e → e < 100 → Flt (setI y 0 69 (nI e)) e := fun y e a b => ⟨gI_at, a, b⟩
  have frI : ∀ {y : St} {v : Int32}, FrPr x y → FrPr x (setI y 0 69 v) := fun h => Fg.trans h (Fg.i ⟨rfl, by decide⟩)
  have z34 : ∀ {y z : St}, fA y 34 0 = 0 → fA z 34 = fA y 34 → fA z 34 0 = 0 := fun h e => by rw [e]; exact h
  unfold wp_Mod_readPage
  refine nm_e ?_
  have fX : FrPr x (setI x 0 68 (nI st)) := Fg.i ⟨rfl, by decide⟩
  have FX' := fX.fi hF
  have X68 : fI (setI x 0 68 (nI st)) 0 68 = nI st := gI_at
  have X69 : fI (setI x 0 68 (nI st)) 0 69 = 0 := (gI_ne (by decide)).trans h0
  have X67 : fI (setI x 0 68 (nI st)) 0 67 = nI p := (gI_ne (by decide)).trans hp
  have X34 : fA (setI x 0 68 (nI st)) 34 0 = 0 := h34
  generalize setI x 0 68 (nI st) = X at *
  rw [X68]
  refine s_vrd FX' X69 X67 hps hst (fun e y y1 y2 y3 => ?_) (fun m q y y1 y2 y3 y4 => ?_)
  · have he : pgR T ty mr md st p = .error e := by unfold pgR; rw [y1]
    have hz := z34 X34 (y2.2.2.2.1 34 id)
    exact ⟨fun _ => F1 y e _ _ _ y3 he (Fg.trans fX y2.pr) hz, fun _ => F1 y e _ _ _ y3 he (Fg.trans fX y2.pr) hz⟩
  · obtain ⟨v1, v2, v3⟩ := vrd_ok hT y1
    have fy : FrPr x y := Fg.trans fX y2.pr
    have Fy := fy.fi hF
    have Y34 := z34 X34 (y2.2.2.2.1 34 id)
    have Y68 : fI y 0 68 = nI st := (y2.1 0 68 (by decide)).trans X68
    have e0 : pgR T ty mr md st p = if m = 0 then .error 3 else if 1000 < m then .error 4 else pgR1 T ty mr md m st q := by unfold pgR; rw [y1]
    by_cases c0 : m = 0
    · rw [if_pos c0] at e0
      refine ⟨fun z => absurd ((lg_cmp_eq _ _).mpr (by rw [c0]; rfl)) z, fun _ => ?_⟩
      unfold j_Mod_readPage_26 j_Mod_readPage_45
      have hf := flI y 3 (by decide) (by decide)
      refine s_fl1 y4 ⟨fun _ => F2 _ 3 _ _ _ hf e0 (frI fy) Y34, fun _ => ⟨fun _ => F2 _ 3 _ _ _ hf e0 (frI fy) Y34, fun _ => F2 _ 3 _ _ _ hf e0 (frI fy) Y34⟩⟩
    · rw [if_neg c0] at e0
      refine ⟨fun _ => ?_, fun z => absurd ((lN0 (by omega)).mp ((lg_cmp_eq _ _).mp z)) c0⟩
      unfold j_Mod_readPage_26 j_Mod_readPage_45
      refine s_fl0 ?_
      by_cases c4 : 1000 < m
      · rw [if_pos c4] at e0
        have hf := flI y 4 (by decide) (by decide)
        have bad : j_Mod_readPage_50 post (nI st) (lN m) 1 y := by
          have g := F2 (setI y 0 69 4) 4 (nI st) (lN m) 0 hf e0 (frI fy) Y34
          unfold j_Mod_readPage_50 at g ⊢
          refine s_fl1 y4 ?_
          unfold wp_Mod_faults at g
          exact g.1 rfl
        refine ⟨fun _ => bad, fun z => ⟨fun w => ?_, fun _ => bad⟩⟩
        exfalso
        rw [lg_cmp_le] at w
        rw [lg_cmp_lt] at z
        have hneg : ¬ lN m < 0 := fun u => z (Int64.lt_trans u (by decide))
        rw [lN_neg2 v1] at hneg
        rw [show (1000 : Int64) = lN 1000 from rfl, lN_le2 (by omega) (by decide)] at w
        omega
      · rw [if_neg c4] at e0
        refine br_f (by rw [lg_cmp_lt, show (1 : Int64) = lN 1 from rfl, lN_lt2 (by omega) (by decide)]; omega) (br_t (by rw [lg_cmp_le, show (1000 : Int64) = lN 1000 from rfl, lN_le2 (by omega) (by decide)]; omega) ?_)
        unfold j_Mod_readPage_50
        refine s_fl0 ?_
        rw [Y68]
        refine s_vrd Fy y4 y3 v3 hst (fun e z z1 z2 z3 => ?_) (fun no q1 z z1 z2 z3 z4 => ?_)
        · have he : pgR T ty mr md st p = .error e := by rw [e0]; unfold pgR1; rw [z1]
          have hz := z34 Y34 (z2.2.2.2.1 34 id)
          unfold j_Mod_readPage_79
          exact ⟨fun _ => F3 z e _ _ _ _ z3 he (Fg.trans fy z2.pr) hz, fun _ => ⟨fun _ => F3 z e _ _ _ _ z3 he (Fg.trans fy z2.pr) hz, fun _ => F3 z e _ _ _ _ z3 he (Fg.trans fy z2.pr) hz⟩⟩
        · obtain ⟨w1, w2, w3⟩ := vrd_ok hT z1
          have fz : FrPr x z := Fg.trans fy z2.pr
          have Fz := fz.fi hF
          have Z34 := z34 Y34 (z2.2.2.2.1 34 id)
          have Z68 : fI z 0 68 = nI st := (z2.1 0 68 (by decide)).trans Y68
          have e1 : pgR T ty mr md st p = (if m < no then .error 7 else match fxd T 1 st q1 with
            | .error e => .error e
            | .ok (how, q1) => if nCod ty ≤ how then .error 7 else pgR2 T ty mr md m no how st q1) := by rw [e0]; unfold pgR1; rw [z1]
          refine oob_tests (post := True) w1 rfl (by omega) (fun c => ?_) (fun c => ?_)
          · rw [if_pos c] at e1
            have hf := flI z 7 (by decide) (by decide)
            have g := F3 (setI z 0 69 7) 7 (nI st) (lN m) (lN no) 0 hf e1 (frI fz) Z34
            unfold j_Mod_readPage_79
            unfold j_Mod_readPage_84 at g ⊢
            refine s_fl1 z4 ?_
            unfold wp_Mod_faults at g
            exact g.1 rfl
          · rw [if_neg (by omega)] at e1
            unfold j_Mod_readPage_84
            refine s_fl0 ?_
            rw [Z68, show (1 : Int32) = nI 1 from rfl]
            refine s_fxd Fz z4 z3 w3 hst (by decide) (fun e u u1 u2 u3 => ?_) (fun how q2 u u1 u2 u3 u4 => ?_)
            · have he : pgR T ty mr md st p = .error e := by rw [e1, u1]
              have hz := z34 Z34 (u2.2.2.2.1 34 id)
              exact nm_e (s_cdg (ty := ty) (((Fg.trans fz u2.pr : FrPr x u).1 0 38 (by decide)).trans h38) hty ⟨fun _ => F4 u e _ _ _ _ _ u3 he (Fg.trans fz u2.pr) hz, fun _ => F4 u e _ _ _ _ _ u3 he (Fg.trans fz u2.pr) hz⟩)
            · have fo := fxd_ok hT u1
              have how256 : how < 256 := fo.2.2
              rw [u1] at e1
              simp only at e1
              have fu : FrPr x u := Fg.trans fz u2.pr
              have U34 := z34 Z34 (u2.2.2.2.1 34 id)
              have U68 : fI u 0 68 = nI st := (u2.1 0 68 (by decide)).trans Z68
              rw [lN_i]
              refine nm_e (s_cdg (ty := ty) ((fu.1 0 38 (by decide)).trans h38) hty ?_)
              by_cases ch : nCod ty ≤ how
              · rw [if_pos ch] at e1
                refine br_f (by (first | omega | (simp (disch := omega) only [Int32.le_iff_toInt_le, Int32.lt_iff_toInt_lt, z_eq, z_in, nI_toInt, z_cl, z_m1, z_sg, z_255, Int32.reduceToInt] <;> omega) | (simp only [Int32.le_iff_toInt_le, Int32.lt_iff_toInt_lt, z_eq, z_in, z_add, z_sub, z_mul, z_neg, z_nI, z_cl, z_sg, z_255, z_lit, Int32.reduceToInt] <;> omega))) ?_
                have hf := flI u 7 (by decide) (by decide)
                unfold j_Mod_readPage_116
                exact s_fl1 u4 ⟨1, F5 _ 7 _ _ _ _ _ 0 hf e1 (frI fu) U34⟩
              · rw [if_neg ch] at e1
                refine br_t (by (first | omega | (simp (disch := omega) only [Int32.le_iff_toInt_le, Int32.lt_iff_toInt_lt, z_eq, z_in, nI_toInt, z_cl, z_m1, z_sg, z_255, Int32.reduceToInt] <;> omega) | (simp only [Int32.le_iff_toInt_le, Int32.lt_iff_toInt_lt, z_eq, z_in, z_add, z_sub, z_mul, z_neg, z_nI, z_cl, z_sg, z_255, z_lit, Int32.reduceToInt] <;> omega))) ?_
                unfold j_Mod_readPage_116
                refine s_fl0 ?_
                -- behind what is told
                have rest : ∀ (lh : PV × PV) q3 (b : St) l7, FrPr x b → fI b 0 69 = 0 → fI b 0 67 = nI q3 → fI b 0 68 = nI st → q3 ≤ st → fA b 34 0 = 0 → (m - no ≠ 0 → ToM b ty 0 lh.1 ∧ ToM b ty 1 lh.2 ∧ okVv ty lh.1 ∧ okVv ty lh.2) → pgR T ty mr md st p = pgR3 T ty mr md m no how lh st q3 → j_Mod_readPage_156 post (nI st) (lN m) (lN no) (nI how) l7 b := fun lh q3 b l7 b1 b2 b3 b4 b5 b6 b7 b8 => by
                  have Fb := b1.fi hF
                  unfold j_Mod_readPage_156
                  rw [b4]
                  refine s_vrd Fb b2 b3 b5 hst (fun e c c1 c2 c3 => ?_) (fun sz q4 c c1 c2 c3 c4 => ?_)
                  · have he : pgR T ty mr md st p = .error e := by rw [b8]; unfold pgR3; rw [c1]
                    have hz := z34 b6 (c2.2.2.2.1 34 id)
                    have fc : FrPr x c := Fg.trans b1 c2.pr
                    refine s_fxd0 c3.ne (nm_e ?_)
                    unfold j_Mod_readPage_202
                    exact ⟨fun _ => F7 c e _ _ _ _ _ _ _ c3 he fc hz, fun _ => ⟨fun _ => F7 c e _ _ _ _ _ _ _ c3 he fc hz, fun _ => F7 c e _ _ _ _ _ _ _ c3 he fc hz⟩⟩
                  · obtain ⟨s1, s2, s3⟩ := vrd_ok hT c1
                    have fc : FrPr x c := Fg.trans b1 c2.pr
                    have C34 := z34 b6 (c2.2.2.2.1 34 id)
                    have C68 : fI c 0 68 = nI st := (c2.1 0 68 (by decide)).trans b4
                    rw [C68, show (4 : Int32) = nI 4 from rfl]
                    refine s_fxd (fc.fi hF) c4 c3 s3 hst (by decide) (fun e d d1 d2 d3 => ?_) (fun sum q5 d d1 d2 d3 d4 => ?_)
                    · have he : pgR T ty mr md st p = .error e := by rw [b8]; unfold pgR3; rw [c1]; simp only; rw [d1]
                      have hz := z34 C34 (d2.2.2.2.1 34 id)
                      have fd : FrPr x d := Fg.trans fc d2.pr
                      refine nm_e ?_
                      unfold j_Mod_readPage_202
                      exact ⟨fun _ => F7 d e _ _ _ _ _ _ _ d3 he fd hz, fun _ => ⟨fun _ => F7 d e _ _ _ _ _ _ _ d3 he fd hz, fun _ => F7 d e _ _ _ _ _ _ _ d3 he fd hz⟩⟩
                    · have fo2 := fxd_ok hT d1
                      have fd : FrPr x d := Fg.trans fc d2.pr
                      have Fd := fd.fi hF
                      have D34 := z34 C34 (d2.2.2.2.1 34 id)
                      have D68 : fI d 0 68 = nI st := (d2.1 0 68 (by decide)).trans C68
                      have e3 : pgR T ty mr md st p = (if st < q5 + sz then .error 1 else if crcS (fun i => nI (T i)) q5 (q5 + sz) ≠ (lN sum).toInt32 then .error 8 else match bdR T ty mr md m (m - no) how lh.1 lh.2 (q5 + sz) q5 with
                        | .error e => .error e
                        | .ok (d, _) => .ok ((how, d), q5 + sz)) := by
                        rw [b8]; unfold pgR3; rw [c1]; simp only; rw [d1]
                      refine nm_e ?_
                      rw [D68, d3, nI_sub fo2.2.1]
                      refine oob_tests (post := True) s1 (show (nI (st - q5)).toInt64 = lN (st - q5) from nI_l (by omega)) (by omega) (fun co => ?_) (fun co => ?_)
                      · rw [if_pos (by omega)] at e3
                        have hf := flI d 1 (by decide) (by decide)
                        unfold j_Mod_readPage_202 j_Mod_readPage_207
                        exact s_fl1 d4 ⟨fun z => absurd z hf.ne, fun _ => pe 1 _ e3 (frI fd) hf D34⟩
                      · rw [if_neg (by omega)] at e3
                        unfold j_Mod_readPage_207
                        refine s_fl0 ⟨fun _ => ?_, fun z => absurd d4 z⟩
                        rw [d3, lN_i, nI_add]
                        refine nm_e ?_
                        have fG : FrPr x (setI d 0 68 (nI (q5 + sz))) := Fg.trans fd (Fg.i ⟨rfl, by decide⟩)
                        have FG := fG.fi hF
                        have G68 : fI (setI d 0 68 (nI (q5 + sz))) 0 68 = nI (q5 + sz) := gI_at
                        have G69 : fI (setI d 0 68 (nI (q5 + sz))) 0 69 = 0 := (gI_ne (by decide)).trans d4
                        have G67 : fI (setI d 0 68 (nI (q5 + sz))) 0 67 = nI q5 := (gI_ne (by decide)).trans d3
                        have G34 : fA (setI d 0 68 (nI (q5 + sz))) 34 0 = 0 := D34
                        have Gto : m - no ≠ 0 → ToM (setI d 0 68 (nI (q5 + sz))) ty 0 lh.1 ∧ ToM (setI d 0 68 (nI (q5 + sz))) ty 1 lh.2 ∧ okVv ty lh.1 ∧ okVv ty lh.2 := fun hne => by
                          obtain ⟨t1, t2, t3, t4⟩ := b7 hne
                          have eL : fL d 47 = fL b 47 := (d2.2.2.2.2.1 47 id).trans (c2.2.2.2.2.1 47 id)
                          have e48 : fA d 48 = fA b 48 := (d2.2.2.2.1 48 id).trans (c2.2.2.2.1 48 id)
                          have e49 : fA d 49 = fA b 49 := (d2.2.2.2.1 49 id).trans (c2.2.2.2.1 49 id)
                          have tt : ∀ {i : Nat} {v : PV}, ToM b ty i v → ToM (setI d 0 68 (nI (q5 + sz))) ty i v := fun {i v} h => by
                            unfold ToM
                            show (ty ≠ 3 → fL d 47 i = v.1) ∧ (ty = 3 → v.2.length ≤ 255 ∧ fA d 48 i = nI v.2.length ∧ ∀ j, j < v.2.length → fA d 49 (256 * i + j) = v.2.getD j 0)
                            rw [eL, e48, e49]
                            exact h
                          exact ⟨tt t1, tt t2, t3, t4⟩
                        generalize setI d 0 68 (nI (q5 + sz)) = G at *
                        have G41 : fN G 41 = 40000 := FG.1 41
                        rw [G67, G68]
                        refine s_check (T := fun i => nI (T i)) (a := q5) (e := q5 + sz) (by omega) (by omega) (by omega) (fun i _ hi => ⟨FG.2.2.2 i (by omega), ?_⟩) ?_
                        · have := hT i
                          constructor <;> (first | omega | (simp (disch := omega) only [Int32.le_iff_toInt_le, Int32.lt_iff_toInt_lt, z_eq, z_in, nI_toInt, z_cl, z_m1, z_sg, z_255, Int32.reduceToInt] <;> omega) | (simp only [Int32.le_iff_toInt_le, Int32.lt_iff_toInt_lt, z_eq, z_in, z_add, z_sub, z_mul, z_neg, z_nI, z_cl, z_sg, z_255, z_lit, Int32.reduceToInt] <;> omega))
                        · by_cases c8 : crcS (fun i => nI (T i)) q5 (q5 + sz) = (lN sum).toInt32
                          · rw [if_neg (fun w => w c8)] at e3
                            rw [← c8]
                            refine br_t rfl ?_
                            unfold j_Mod_readPage_257
                            refine s_fl0 ⟨fun w => absurd G69 w, fun _ => ?_⟩
                            rw [show lN m - lN no = lN (m - no) from lN_sb (by omega) (by omega), lN_i, lN_i]
                            -- the end of it
                            have fin : ∀ (g : St), fI g 0 68 = nI (q5 + sz) → (∀ g', FrPr g g' → fI g' 0 67 = nI (q5 + sz) → fI g' 0 69 = fI g 0 69 → fI g' 0 41 = nI m → fI g' 0 42 = nI (m - no) → fI g' 0 43 = nI how → (∀ a, fA g' a = fA g a) → (∀ a, fL g' a = fL g a) → (∀ k, k ≠ 41 → k ≠ 42 → k ≠ 43 → k ≠ 67 → fI g' 0 k = fI g 0 k) → post g') → ∀ l7 l9, j_Mod_readPage_282 post (nI st) (lN m) (lN no) (nI how) l7 l9 g := fun g g1 g2 l7 l9 => by
                              unfold j_Mod_readPage_282
                              rw [show lN m - lN no = lN (m - no) from lN_sb (by omega) (by omega), lN_i, lN_i]
                              refine nm_e (nm_e (nm_e (nm_e ?_)))
                              rw [show fI (setI (setI (setI g 0 41 (nI m)) 0 42 (nI (m - no))) 0 43 (nI how)) 0 68 = nI (q5 + sz) from (gI_ne (by decide)).trans ((gI_ne (by decide)).trans ((gI_ne (by decide)).trans g1))]
                              refine g2 _ (Fg.trans (Fg.i ⟨rfl, by decide⟩) (Fg.trans (Fg.i ⟨rfl, by decide⟩) (Fg.trans (Fg.i ⟨rfl, by decide⟩) (Fg.i ⟨rfl, by decide⟩)))) gI_at ((gI_ne (by decide)).trans ((gI_ne (by decide)).trans ((gI_ne (by decide)).trans (gI_ne (by decide))))) ((gI_ne (by decide)).trans ((gI_ne (by decide)).trans ((gI_ne (by decide)).trans gI_at))) ((gI_ne (by decide)).trans ((gI_ne (by decide)).trans gI_at)) ((gI_ne (by decide)).trans gI_at) (fun _ => rfl) (fun _ => rfl) (fun k a b c d => (gI_ne d).trans ((gI_ne c).trans ((gI_ne b).trans (gI_ne a))))
                            refine s_body (lo := lh.1) (hi := lh.2) (how := how) FG G69 G67 G68 ((fG.1 0 38 (by decide)).trans h38) ((fG.1 0 39 (by decide)).trans h39) ((fG.1 0 40 (by decide)).trans h40) hty hmr hmd (by omega) (by omega) (by omega) (by omega) (by omega) G34 Gto (fun e g g1 g2 g3 g4 => ?_) (fun R D P W q6 g g1 g2 g3 g4 g5 g6 g7 g8 g9 g10 g11 => ?_)
                            · rw [g1] at e3
                              refine fin g ((g2.1 0 68 (by decide)).trans G68) (fun g' k1 k2 k3 k4 k5 k6 k7 k8 k9 => pe e g' e3 (Fg.trans fG (Fg.trans g2.pr k1)) ⟨k3.trans g3.1, g3.2⟩ (by rw [k7]; exact g4)) _ _
                            · rw [g1] at e3
                              have nv : ∀ {g' : St}, (∀ a, fA g' a = fA g a) → (∀ a, fL g' a = fL g a) → (∀ k, k ≠ 41 → k ≠ 42 → k ≠ 43 → k ≠ 67 → fI g' 0 k = fI g 0 k) → NvM g' ty P ∧ WdM g' ty how W := fun {g'} k7 k8 k9 => by
                                refine ⟨⟨fun c3 => (g9.1 c3).cg (k9 58 (by decide) (by decide) (by decide) (by decide)) (k7 34) (k7 37), fun c3 k hk => by rw [k8]; exact g9.2 c3 k hk⟩, fun c0 ch => ?_⟩
                                obtain ⟨w1, w2⟩ := g10 c0 ch
                                refine ⟨fun c3 => ?_, fun c3 => ?_⟩
                                · have := w1 c3
                                  unfold WdT at this ⊢
                                  rw [k9 59 (by decide) (by decide) (by decide) (by decide), k7 35, k7 38]
                                  exact this
                                · have := w2 c3
                                  unfold WdW at this ⊢
                                  rw [k9 59 (by decide) (by decide) (by decide) (by decide), k8 32]
                                  exact this
                              refine fin g ((g2.1 0 68 (by decide)).trans G68) (fun g' k1 k2 k3 k4 k5 k6 k7 k8 k9 => ?_) _ _
                              obtain ⟨n1, n2⟩ := nv k7 k8 k9
                              exact pk how R D P W (q5 + sz) g' e3 (Fg.trans fG (Fg.trans g2.pr k1)) (k3.trans g3) k2 (by omega) (by omega) (by omega) (by omega) (by omega) (by omega) (by rw [g6]; exact k4) (by rw [g7]; exact k5) k6 (fun i hi => by rw [k7, k7]; exact g8 i (by omega)) n1 n2 (by rw [k7]; exact g11)
                          · rw [if_pos c8] at e3
                            refine br_f c8 ?_
                            unfold j_Mod_readPage_257
                            have hf := flI G 8 (by decide) (by decide)
                            refine s_fl1 G69 ⟨fun _ => ?_, fun z => absurd z hf.ne⟩
                            unfold j_Mod_readPage_282
                            refine nm_e (nm_e (nm_e (nm_e ?_)))
                            exact pe 8 _ e3 (Fg.trans (frI fG) (Fg.trans (Fg.i ⟨rfl, by decide⟩) (Fg.trans (Fg.i ⟨rfl, by decide⟩) (Fg.trans (Fg.i ⟨rfl, by decide⟩) (Fg.i ⟨rfl, by decide⟩))))) ⟨(gI_ne (by decide)).trans ((gI_ne (by decide)).trans ((gI_ne (by decide)).trans ((gI_ne (by decide)).trans gI_at))), by decide, by decide⟩ G34
                -- LEAST and GREATEST
                have Fu := fu.fi hF
                have cmp : (0 ≤ lg_cmp (lN no) (lN m)) ↔ m ≤ no := by rw [lg_cmp_ge, lN_le2 (by omega) (by omega)]
                refine ⟨3, ?_⟩
                unfold wl_Mod_readPage_124 j_Mod_readPage_124
                refine br_f (by decide) ⟨fun w => absurd u4 w, fun _ => ?_⟩
                by_cases cn : m ≤ no
                · have el : lhR T ty no m st q2 = .ok (((0, []), (0, [])), q2) := by unfold lhR; rw [if_neg (by omega)]
                  exact br_t (cmp.mpr cn) (rest ((0, []), (0, [])) q2 u _ fu u4 u3 U68 fo.2.1 U34 (fun w => by omega) (by rw [e1]; unfold pgR2; rw [el]))
                · refine br_f (fun w => cn (cmp.mp w)) ?_
                  have el : lhR T ty no m st q2 = (match tld T ty st q2 with
                    | .error e => .error e
                    | .ok (lo, q) => match tld T ty st q with
                      | .error e => .error e
                      | .ok (hi, q1) => .ok ((lo, hi), q1)) := by unfold lhR; rw [if_pos (by omega)]
                  rw [show (0 : Int32) = nI 0 from rfl]
                  refine s_told (i := 0) Fu u4 u3 U68 ((fu.1 0 38 (by decide)).trans h38) hty (by decide) fo.2.1 hst (fun e b b1 b2 b3 => ?_) (fun lo q3 b b1 b2 b3 b4 b5 b6 => ?_)
                  · exact F5 b e _ _ _ _ _ 1 b3 (by rw [e1]; unfold pgR2; rw [el, b1]) (Fg.trans fu b2.pr) (z34 U34 (b2.2.2.2.1 34 (by decide)))
                  · rw [b1] at el
                    simp only at el
                    have t1 := tld_ok hT b1
                    have fb : FrPr x b := Fg.trans fu b2.pr
                    have B34 := z34 U34 (b2.2.2.2.1 34 (by decide))
                    have B68 : fI b 0 68 = nI st := (b2.1 0 68 (by decide)).trans U68
                    unfold wl_Mod_readPage_124 j_Mod_readPage_124
                    refine br_f (by decide) ⟨fun w => absurd b3 w, fun _ => br_f (fun w => cn (cmp.mp w)) ?_⟩
                    rw [show nI 0 + 1 = nI 1 from rfl]
                    refine s_told (i := 1) (fb.fi hF) b3 b4 B68 ((fb.1 0 38 (by decide)).trans h38) hty (by decide) t1.2.1 hst (fun e c c1 c2 c3 => ?_) (fun hi q4 c c1 c2 c3 c4 c5 c6 => ?_)
                    · exact F5 c e _ _ _ _ _ 0 c3 (by rw [e1]; unfold pgR2; rw [el, c1]) (Fg.trans fb c2.pr) (z34 B34 (c2.2.2.2.1 34 (by decide)))
                    · rw [c1] at el
                      have t2 := tld_ok hT c1
                      have fc : FrPr x c := Fg.trans fb c2.pr
                      have C34 := z34 B34 (c2.2.2.2.1 34 (by decide))
                      have to0 : ToM c ty 0 lo := by
                        obtain ⟨k1, k2, k3⟩ := c6 0 (by decide) (by decide)
                        refine ⟨fun w => by rw [k1]; exact b5.1 w, fun w => ?_⟩
                        obtain ⟨r1, r2, r3⟩ := b5.2 w
                        exact ⟨r1, by rw [k2]; exact r2, fun j hj => by rw [k3 j (by omega)]; exact r3 j hj⟩
                      unfold wl_Mod_readPage_124 j_Mod_readPage_124
                      exact br_t (by decide) (rest (lo, hi) q4 c _ fc c3 c4 ((c2.1 0 68 (by decide)).trans B68) t2.2.1 C34 (fun _ => ⟨to0, c5, t1.2.2.1, t2.2.2.1⟩) (by rw [e1]; unfold pgR2; rw [el]))
end
