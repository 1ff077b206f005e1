/-! the model reads numbers: plain, by a CODE, by a DICTIONARY; levels -/
theorem gL_ne {x : St} {o a : Nat} {i : Int32} {v : Int64} (h : a ≠ o) : fL (setL x o i v) a = fL x a := (Fg.l (I := no2) (J := no2) (R := no2) (A := no1) (L := fun b => b = o) rfl).2.2.2.2.1 a h
section
variable {x : St} {T : Nat → Nat} {n st p : Nat}
theorem s_isOne {post : Int32 → St → Prop} {ty : Nat} {v : Int64} (h38 : fI x 0 38 = nI ty) (hty : ty = 1 ∨ ty = 2) (k : post (if ty = 1 ∧ ¬ inI v then 0 else 1) x) : wp_Mod_isOne post v x := by
  unfold wp_Mod_isOne j_Mod_isOne_43
  rw [h38]
  rcases hty with c | c
  · refine ⟨fun _ => ⟨fun z => absurd (by rw [c]; rfl) z, fun _ => ?_⟩, fun z => absurd (by rw [c] at z; exact z) (by decide)⟩
    by_cases ci : inI v
    · rw [if_neg (fun z => z.2 ci)] at k
      exact ⟨fun z => absurd ((lg_cmp_eq _ _).mpr ci) z, fun _ => k⟩
    · rw [if_pos ⟨c, ci⟩] at k
      exact ⟨fun _ => k, fun z => absurd ((lg_cmp_eq _ _).mp z) ci⟩
  · rw [if_neg (fun z => by omega)] at k
    exact ⟨fun _ => ⟨fun _ => k, fun z => absurd (by rw [c] at z; exact z) (by decide)⟩, fun z => absurd (by rw [c] at z; exact z) (by decide)⟩
theorem wplF_ok {ty : Nat} : ∀ d acc p P q, wplF T ty st d acc p = .ok (P, q) → p ≤ st → P.length = acc.length + d ∧ q ≤ st := by
  intro d
  induction d with
  | zero => intro acc p P q h hp; simp only [wplF, Except.ok.injEq, Prod.mk.injEq] at h; rw [← h.1, ← h.2]; exact ⟨rfl, hp⟩
  | succ d ih =>
    intro acc p P q h hp
    simp only [wplF] at h
    unfold fxd at h
    split at h
    · exact absurd h (by simp)
    · rename_i v q1 e
      split at e
      · exact absurd e (by simp)
      · simp only [Except.ok.injEq, Prod.mk.injEq] at e
        have := ih _ _ _ _ h (by omega)
        rw [List.length_append] at this
        have e1 : [((whV ty v : Int64), ([] : List Int32))].length = 1 := rfl
        omega
theorem fxd_err {m e : Nat} (h : fxd T m st p = .error e) : e = 1 := by
  unfold fxd at h
  split at h
  · simp only [Except.error.injEq] at h; omega
  · exact absurd h (by simp)
theorem fxd_ok {m v q : Nat} (hT : ∀ i, T i < 256) (h : fxd T m st p = .ok (v, q)) : q = p + m ∧ q ≤ st ∧ v < 256 ^ m := by
  unfold fxd at h
  split at h
  · exact absurd h (by simp)
  · simp only [Except.ok.injEq, Prod.mk.injEq] at h
    rw [← h.1]
    exact ⟨by omega, by omega, fxV_lt hT m⟩
theorem NwW.snoc {y : St} {P : List PV} {v : Int64} (h : NwW y P) (hl : P.length < 2 ^ 31) : NwW (setL y 31 (nI P.length) v) (P ++ [(v, [])]) := fun k hk => by
  rw [List.length_append] at hk
  have hk : k < P.length + 1 := hk
  rw [gL_at, nI_clamp hl]
  by_cases e : k = P.length
  · rw [e, updL_at, pv_last]
  · rw [updL_ne e, pvd_a1 (by omega)]; exact h k (by omega)
/-- numbers, one behind the other -/
theorem s_wpl {post : St → Prop} {ty m : Nat} (hF : FiM x T n) (h0 : fI x 0 69 = 0) (hp : fI x 0 67 = nI p) (h68 : fI x 0 68 = nI st) (h38 : fI x 0 38 = nI ty) (hty : ty = 1 ∨ ty = 2) (hps : p ≤ st) (hst : st ≤ n) (hm : m ≤ 1000)
    (pe : ∀ e y, wplF T ty st m [] p = .error e → FrVn x y → Flt y e → post y)
    (pk : ∀ P q y, wplF T ty st m [] p = .ok (P, q) → FrVn x y → fI y 0 69 = 0 → fI y 0 67 = nI q → q ≤ st → NwW y P → P.length = m → post y) : wp_Mod_readWholes post 0 (nI m) x := by
  have hT := hF.2.2.1
  have e31 : fN x 31 = 1000 := hF.1 31
  unfold wp_Mod_readWholes
  refine ⟨fun z => absurd rfl z, fun _ => ?_⟩
  have key : ∀ d acc q (y : St), acc.length + d = m → FrVn x y → fI y 0 69 = 0 → fI y 0 67 = nI q → q ≤ st → NwW y acc → wplF T ty st m [] p = wplF T ty st d acc q → wl_Mod_readWholes_6 post (d + 1) 0 (nI m) (nI acc.length) y := by
    intro d
    induction d with
    | zero =>
      intro acc q y hd y1 y2 y3 y4 y5 y6
      unfold wl_Mod_readWholes_6 j_Mod_readWholes_6 j_Mod_readWholes_34
      exact br_t (by (first | omega | (simp (disch := omega) only [Int32.le_iff_toInt_le, Int32.lt_iff_toInt_lt, z_eq, z_in, nI_toInt, z_cl, z_m1, z_sg, z_255, Int32.reduceToInt] <;> omega) | (simp only [Int32.le_iff_toInt_le, Int32.lt_iff_toInt_lt, z_eq, z_in, z_add, z_sub, z_mul, z_neg, z_nI, z_cl, z_sg, z_255, z_lit, Int32.reduceToInt] <;> omega))) (pk acc q y y6 y1 y2 y3 y4 y5 (by omega))
    | succ d ih =>
      intro acc q y hd y1 y2 y3 y4 y5 y6
      have e6 : wplF T ty st m [] p = (match fxd T (wid ty) st q with | .error e => .error e | .ok (v, q1) => wplF T ty st d (acc ++ [(whV ty v, [])]) q1) := by
        rw [y6]; simp only [wplF]
        cases fxd T (wid ty) st q <;> rfl
      unfold wl_Mod_readWholes_6 j_Mod_readWholes_6
      refine br_f (by (first | omega | (simp (disch := omega) only [Int32.le_iff_toInt_le, Int32.lt_iff_toInt_lt, z_eq, z_in, nI_toInt, z_cl, z_m1, z_sg, z_255, Int32.reduceToInt] <;> omega) | (simp only [Int32.le_iff_toInt_le, Int32.lt_iff_toInt_lt, z_eq, z_in, z_add, z_sub, z_mul, z_neg, z_nI, z_cl, z_sg, z_255, z_lit, Int32.reduceToInt] <;> omega))) ⟨fun w => absurd y2 w, fun _ => ?_⟩
      refine s_whole (y1.fi hF) y2 y3 ((y1.1 0 68 (by decide)).trans h68) ((y1.1 0 38 (by decide)).trans h38) hty y4 hst (fun e z z1 z2 z3 v => ?_) (fun v q1 z z1 z2 z3 z4 => ?_)
      · have n31 : fN z 31 = 1000 := by show z.2.2.2.2.2 31 = _; rw [z2.2.2.2.2.2]; show y.2.2.2.2.2 31 = _; rw [y1.2.2.2.2.2]; exact e31
        refine ⟨vp_in_nI (by omega) (by omega), nm_e ?_⟩
        have fl : Flt (setL z 31 (nI acc.length) v) e := z3
        have fz : FrVn x (setL z 31 (nI acc.length) v) := Fg.trans y1 (Fg.trans z2.vn (Fg.l (Or.inl rfl)))
        rw [z1] at e6
        unfold wl_Mod_readWholes_6 j_Mod_readWholes_6 j_Mod_readWholes_34
        cases d <;> (
          show (_ → post _) ∧ _
          by_cases c : nI m ≤ nI acc.length + 1
          · exact br_t c (pe e _ e6 fz fl)
          · exact br_f c ⟨fun _ => pe e _ e6 fz fl, fun w => absurd w fl.ne⟩)
      · have n31 : fN z 31 = 1000 := by show z.2.2.2.2.2 31 = _; rw [z2.2.2.2.2.2]; show y.2.2.2.2.2 31 = _; rw [y1.2.2.2.2.2]; exact e31
        refine ⟨vp_in_nI (by omega) (by omega), nm_e ?_⟩
        rw [z1] at e6
        have e1 : (acc ++ [((whV ty v : Int64), ([] : List Int32))]).length = acc.length + 1 := by rw [List.length_append]; rfl
        have wz : NwW z acc := fun k hk => by
          show z.2.2.2.2.1 31 k = _
          rw [z2.2.2.2.2.1 31 id]; exact y5 k hk
        have := ih (acc ++ [(whV ty v, [])]) q1 (setL z 31 (nI acc.length) (whV ty v)) (by omega) (Fg.trans y1 (Fg.trans z2.vn (Fg.l (Or.inl rfl)))) z4 z3 (fxd_ok hT z1).2.1 (wz.snoc (by omega)) e6
        rw [e1] at this
        rw [nI_1]
        exact this
  exact ⟨m + 1, key m [] p x (by rw [List.length_nil]; omega) (Fg.refl x) h0 hp hps (fun k hk => absurd hk (Nat.not_lt_zero _)) rfl⟩
theorem s_wh1 {post : St → Prop} {ty m : Nat} (hF : FiM x T n) (h0 : fI x 0 69 = 0) (hp : fI x 0 67 = nI p) (h68 : fI x 0 68 = nI st) (h38 : fI x 0 38 = nI ty) (hty : ty = 1 ∨ ty = 2) (hps : p ≤ st) (hst : st ≤ n) (hm : m ≤ 1000)
    (pe : ∀ e y, wh1 T ty m st p = .error e → FrVn x y → Flt y e → post y)
    (pk : ∀ P q y, wh1 T ty m st p = .ok (P, q) → FrVn x y → fI y 0 69 = 0 → fI y 0 67 = nI q → q ≤ st → NwW y P → P.length = m → post y) : wp_Mod_readWholes post 1 (nI m) x := by
  have hT := hF.2.2.1
  have e31 : fN x 31 = 1000 := hF.1 31
  have e43 : fN x 43 = 2000 := hF.1 43
  unfold wp_Mod_readWholes
  refine ⟨fun _ => ⟨fun z => absurd rfl z, fun _ => ?_⟩, fun z => absurd z (by decide)⟩
  rw [h68]
  refine s_lgs hF h0 hp hps hst (by omega) (fun e y y1 y2 y3 => ?_) (fun L q y y1 y2 y3 y4 y5 => ?_)
  · refine ⟨1, ?_⟩
    have he : wh1 T ty m st p = .error e := by unfold wh1; rw [y1]
    unfold wl_Mod_readWholes_53 j_Mod_readWholes_53 j_Mod_readWholes_102
    by_cases c : nI m ≤ 0
    · exact br_t c (pe e y he y2.vn y3)
    · exact br_f c ⟨fun _ => pe e y he y2.vn y3, fun w => absurd w y3.ne⟩
  · obtain ⟨l1, l2, l3⟩ := lgs_ok hT y1 hps
    have eb : wh1 T ty m st p = if ty = 1 ∧ ∃ k, k < m ∧ ¬ inI (L.getD k 0) then .error 7 else .ok (L.map (fun v => (v, [])), q) := by unfold wh1; rw [y1]
    refine lp_Mod_readWholes_53 (fun a0 a1 a2 z => 1 = a0 ∧ nI m = a1 ∧ Fg (fun o k => o = 0 ∧ k = 69) no2 no2 no1 (fun a => a = 31) y z ∧ ∃ k, nI k = a2 ∧ k ≤ m ∧ ((fI z 0 69 = 0 ∧ (¬ (ty = 1 ∧ ∃ j, j < k ∧ ¬ inI (L.getD j 0))) ∧ ∀ j, j < k → fL z 31 j = L.getD j 0) ∨ Flt z 7 ∧ ty = 1 ∧ ∃ j, j < k ∧ ¬ inI (L.getD j 0))) (fun _ _ a2 _ => m - a2.toNatClampNeg) ?_ _ _ _ _ ⟨rfl, rfl, Fg.refl y, 0, rfl, Nat.zero_le _, Or.inl ⟨y3, fun z => by obtain ⟨-, j, j1, -⟩ := z; omega, fun j hj => absurd hj (Nat.not_lt_zero _)⟩⟩
    rintro Q a0 a1 a2 z ⟨rfl, rfl, z1, k, rfl, k1, z2⟩ ih
    have I0 : ∀ k, k ≠ 69 → fI z 0 k = fI y 0 k := fun k hk => z1.1 0 k (fun w => hk w.2)
    have fz : FrVn x z := Fg.trans y2.vn (z1.mono (fun _ _ w => ⟨w.1, by omega⟩) (fun _ _ w => w) (fun _ _ w => w) (fun _ w => w.elim) (fun _ w => Or.inl w))
    have N0 : ∀ o, fN z o = fN x o := fun o => by show z.2.2.2.2.2 o = _; rw [fz.2.2.2.2.2]
    have n31 := N0 31
    have n43 := N0 43
    have L43 : fL z 43 = fL y 43 := z1.2.2.2.2.1 43 (by decide)
    have z38 : fI z 0 38 = nI ty := (fz.1 0 38 (by decide)).trans h38
    unfold j_Mod_readWholes_53 j_Mod_readWholes_102
    by_cases c : k < m
    · refine br_f (by (first | omega | (simp (disch := omega) only [Int32.le_iff_toInt_le, Int32.lt_iff_toInt_lt, z_eq, z_in, nI_toInt, z_cl, z_m1, z_sg, z_255, Int32.reduceToInt] <;> omega) | (simp only [Int32.le_iff_toInt_le, Int32.lt_iff_toInt_lt, z_eq, z_in, z_add, z_sub, z_mul, z_neg, z_nI, z_cl, z_sg, z_255, z_lit, Int32.reduceToInt] <;> omega))) ?_
      rcases z2 with ⟨q1, q2, q3⟩ | ⟨q1, q2⟩
      · refine ⟨fun w => absurd q1 w, fun _ => ⟨vp_in_nI (by omega) (by omega), vp_in_nI (by omega) (by omega), nm_e ⟨vp_in_nI (by show _ < fN z 43; omega) (by show fN z 43 < _; omega), ?_⟩⟩⟩
        have lk : rL z 43 (nI k) = L.getD k 0 := by rw [rL_nI (by omega), L43]; exact y5 k (by omega)
        have lk2 : rL (setL z 31 (nI k) (rL z 43 (nI k))) 43 (nI k) = L.getD k 0 := by
          rw [rL_nI (by omega), show fL (setL z 31 (nI k) (rL z 43 (nI k))) 43 = fL z 43 from gL_ne (by decide), L43]; exact y5 k (by omega)
        rw [lk2]
        have f31 : ∀ j, j < k + 1 → fL (setL z 31 (nI k) (rL z 43 (nI k))) 31 j = L.getD j 0 := fun j hj => by
          rw [gL_at, nI_clamp (by omega)]
          by_cases e : j = k
          · rw [e, updL_at]; exact lk
          · rw [updL_ne e]; exact q3 j (by omega)
        refine s_isOne z38 hty ?_
        have nx : ∀ (u : St), Fg (fun o k => o = 0 ∧ k = 69) no2 no2 no1 (fun a => a = 31) y u → ((fI u 0 69 = 0 ∧ (¬ (ty = 1 ∧ ∃ j, j < k + 1 ∧ ¬ inI (L.getD j 0))) ∧ ∀ j, j < k + 1 → fL u 31 j = L.getD j 0) ∨ Flt u 7 ∧ ty = 1 ∧ ∃ j, j < k + 1 ∧ ¬ inI (L.getD j 0)) → j_Mod_readWholes_96 post Q 1 (nI m) (nI k) u := fun u u1 u2 => by
          unfold j_Mod_readWholes_96
          rw [nI_1]
          exact ih _ _ _ _ ⟨rfl, rfl, u1, k + 1, rfl, c, u2⟩ (by rw [nI_clamp (by omega), nI_clamp (by omega)]; omega)
        by_cases ci : ty = 1 ∧ ¬ inI (L.getD k 0)
        · rw [if_pos ci]
          exact ⟨fun w => absurd rfl w, fun _ => nm_e (nx _ (Fg.trans z1 (Fg.trans (Fg.l rfl) (Fg.i ⟨rfl, rfl⟩))) (Or.inr ⟨⟨gI_at, by decide, by decide⟩, ci.1, k, by omega, ci.2⟩))⟩
        · rw [if_neg ci]
          refine ⟨fun _ => nx _ (Fg.trans z1 (Fg.l rfl)) (Or.inl ⟨q1, fun w => ?_, f31⟩), fun w => absurd w (by decide)⟩
          obtain ⟨t1, j, j1, j2⟩ := w
          by_cases ej : j = k
          · rw [ej] at j2; exact ci ⟨t1, j2⟩
          · exact q2 ⟨t1, j, by omega, j2⟩
      · obtain ⟨t1, j, j1, j2⟩ := q2
        exact ⟨fun _ => pe 7 z (by rw [eb, if_pos ⟨t1, j, by omega, j2⟩]) fz q1, fun w => absurd w q1.ne⟩
    · have ek : k = m := by omega
      subst ek
      refine br_t (by (first | omega | (simp (disch := omega) only [Int32.le_iff_toInt_le, Int32.lt_iff_toInt_lt, z_eq, z_in, nI_toInt, z_cl, z_m1, z_sg, z_255, Int32.reduceToInt] <;> omega) | (simp only [Int32.le_iff_toInt_le, Int32.lt_iff_toInt_lt, z_eq, z_in, z_add, z_sub, z_mul, z_neg, z_nI, z_cl, z_sg, z_255, z_lit, Int32.reduceToInt] <;> omega))) ?_
      rcases z2 with ⟨q1, q2, q3⟩ | ⟨q1, q2⟩
      · rw [if_neg q2] at eb
        have len : (L.map (fun v => ((v : Int64), ([] : List Int32)))).length = k := by rw [List.length_map, l1]
        refine pk _ q z eb fz q1 ((I0 67 (by decide)).trans y4) (by omega) (fun j hj => ?_) len
        rw [len] at hj
        rw [q3 j hj, pvd_map (by omega), List.getD_eq_getElem?_getD, List.getElem?_eq_getElem (by omega)]
        rfl
      · exact pe 7 z (by rw [eb, if_pos q2]) fz q1
end
