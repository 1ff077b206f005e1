/-! what the footer tells of a chunk is read, model -/
def nm4 (T : Nat → Nat) (most what st p : Nat) : Rd Nat := match vrd T st p with
  | .error e => .error e
  | .ok (v, q) => if most < v then .error what else .ok (v, q)
def tdR2 (T : Nat → Nat) (ty st b m e p : Nat) : Rd ChT := match vrd T st p with
  | .error e => .error e
  | .ok (ms, q) => if e < ms then .error 7 else if ms = e then .ok ((b, m, e, ms, (0, []), (0, [])), q) else match tld T ty st q with
    | .error e => .error e
    | .ok (lo, q1) => match tld T ty st q1 with
      | .error e => .error e
      | .ok (hi, q2) => .ok ((b, m, e, ms, lo, hi), q2)
def tdR (T : Nat → Nat) (ty st p : Nat) : Rd ChT := match vrd T st p with
  | .error e => .error e
  | .ok (b, q) => match vrd T st q with
    | .error e => .error e
    | .ok (m, q1) => if m = 0 then .error 18 else match nm4 T 10000 16 st q1 with
      | .error e => .error e
      | .ok (e, q2) => tdR2 T ty st b m e q2
abbrev FrTd (x y : St) : Prop := Fg (fun o k => o = 0 ∧ (k = 38 ∨ k = 67 ∨ k = 68 ∨ k = 69 ∨ k = 93 ∨ k = 94)) no2 no2 (fun a => 48 ≤ a ∧ a ≤ 51 ∨ 55 ≤ a ∧ a ≤ 57 ∨ 61 ≤ a ∧ a ≤ 64) (fun a => a = 47 ∨ a = 54) x y
section
variable {T : Nat → Nat} {st p ty : Nat}
theorem nm4_ok {most what v q : Nat} (hT : ∀ i, T i < 256) (h : nm4 T most what st p = .ok (v, q)) : v ≤ most ∧ p < q ∧ q ≤ st := by
  unfold nm4 at h
  split at h
  · cases h
  rename_i v' q' e
  have := vrd_ok hT e
  split at h
  · cases h
  simp only [Except.ok.injEq, Prod.mk.injEq] at h
  omega
theorem tld_by {v : PV} {q : Nat} (hT : ∀ i, T i < 256) (h : tld T ty st p = .ok (v, q)) : v.2.length + p ≤ q := by
  have t := tld_ok hT h
  by_cases c3 : ty = 3
  · unfold tld at h
    rw [if_neg (by omega), if_pos c3] at h
    split at h
    · cases h
    rename_i m q1 e
    have := vrd_ok hT e
    split at h
    · cases h
    split at h
    · cases h
    simp only [Except.ok.injEq, Prod.mk.injEq] at h
    rw [← h.1, ← h.2]
    show (txs T q1 m).length + p ≤ q1 + m
    rw [txs_len]
    omega
  · rw [t.2.2.2.1 c3]
    show 0 + p ≤ q
    omega
theorem tdR_ok {t : ChT} {q : Nat} (hT : ∀ i, T i < 256) (h : tdR T ty st p = .ok (t, q)) : p + 4 ≤ q ∧ q ≤ st ∧ t.2.1 ≠ 0 ∧ t.2.2.1 ≤ 10000 ∧ t.2.2.2.1 ≤ t.2.2.1 ∧ (t.2.2.2.1 < t.2.2.1 → okPv ty t.2.2.2.2.1 ∧ okPv ty t.2.2.2.2.2) ∧ t.2.2.2.2.1.2.length + t.2.2.2.2.2.2.length + p ≤ q := by
  unfold tdR at h
  split at h
  · cases h
  rename_i b q0 e0
  have v0 := vrd_ok hT e0
  split at h
  · cases h
  rename_i m q1 e1
  have v1 := vrd_ok hT e1
  split at h
  · cases h
  rename_i c1
  split at h
  · cases h
  rename_i e q2 e2
  have v2 := nm4_ok hT e2
  unfold tdR2 at h
  split at h
  · cases h
  rename_i ms q3 e3
  have v3 := vrd_ok hT e3
  split at h
  · cases h
  rename_i c2
  split at h
  · simp only [Except.ok.injEq, Prod.mk.injEq] at h
    rename_i c3
    rw [← h.1, ← h.2]
    exact ⟨by omega, by omega, c1, v2.1, by show ms ≤ e; omega, fun z => by have z : ms < e := z; omega, by show 0 + 0 + p ≤ q3; omega⟩
  · rename_i c3
    split at h
    · cases h
    rename_i lo q4 e4
    have t4 := tld_ok hT e4
    have b4 := tld_by hT e4
    split at h
    · cases h
    rename_i hi q5 e5
    have t5 := tld_ok hT e5
    have b5 := tld_by hT e5
    simp only [Except.ok.injEq, Prod.mk.injEq] at h
    rw [← h.1, ← h.2]
    exact ⟨by omega, by omega, c1, v2.1, by show ms ≤ e; omega, fun _ => ⟨tld_pv hT e4, tld_pv hT e5⟩, by show lo.2.length + hi.2.length + p ≤ q5; omega⟩
end
section
variable {x : St} {F : List SFd} {T : Nat → Nat} {n st p : Nat} {Q : List PV}
theorem FrRd.td {y : St} (f : FrRd x y) : FrTd x y := f.mono (fun _ _ z => ⟨z.1, by omega⟩) (fun _ _ z => z) (fun _ _ z => z) (fun _ z => z.elim) (fun _ z => z.elim)
theorem FrTo.td {y : St} (f : FrTo x y) : FrTd x y := f.mono (fun _ _ z => ⟨z.1, by omega⟩) (fun _ _ z => z) (fun _ _ z => z) (fun _ z => by omega) (fun _ z => by omega)
theorem FrPo.td {y : St} (f : FrPo x y) : FrTd x y := f.mono (fun _ _ z => ⟨z.1, by omega⟩) (fun _ _ z => z) (fun _ _ z => z) (fun _ z => by omega) (fun _ z => by omega)
theorem FrTd.fi {y : St} (f : FrTd x y) (h : FiM x T n) : FiM y T n := h.cg (f.2.2.2.1 41 (by decide)) (fun o => by show y.2.2.2.2.2 o = _; rw [f.2.2.2.2.2])
theorem FrTd.rep {y : St} {q : Nat} (f : FrTd x y) (h : RepM x q F) : RepM y q F := by
  have e : ∀ a, 3 ≤ a → a ≤ 11 → fA y a = fA x a := fun a h1 h2 => f.2.2.2.1 a (by omega)
  unfold RepM
  rw [e 3 (by decide) (by decide), e 4 (by decide) (by decide), e 5 (by decide) (by decide), e 6 (by decide) (by decide), e 7 (by decide) (by decide), e 8 (by decide) (by decide), e 9 (by decide) (by decide), e 10 (by decide) (by decide), e 11 (by decide) (by decide)]
  exact h
theorem s_num40 {post : Int32 → St → Prop} {l1 l2 l3 : Int32} (h0 : ¬ fI x 0 69 = 0) (p : post 0 x) : wp_Mod_number4 post l1 l2 l3 x := by
  have e : ∀ s l4, j_Mod_number4_28 post l1 l2 l3 l4 s x := fun s l4 => by
    unfold j_Mod_number4_28
    exact s_flt h0 ⟨fun _ => p, fun z => absurd z h0⟩
  unfold wp_Mod_number4 j_Mod_number4_23
  exact s_vrd0 h0 ⟨fun _ => e _ _, fun _ => ⟨fun _ => e _ _, fun _ => e _ _⟩⟩
theorem s_num4 {post : Int32 → St → Prop} {most what : Nat} (hF : FiM x T n) (h0 : fI x 0 69 = 0) (hp : fI x 0 67 = nI p) (hps : p ≤ st) (hst : st ≤ n) (hm : most < 2 ^ 31) (hw : 0 < what) (hw2 : what < 100)
    (pe : ∀ e y, nm4 T most what st p = .error e → FrRd x y → Flt y e → post 0 y) (pk : ∀ v q y, nm4 T most what st p = .ok (v, q) → FrRd x y → fI y 0 67 = nI q → fI y 0 69 = 0 → post (nI v) y) : wp_Mod_number4 post (nI st) (nI most) (nI what) x := by
  have hT := hF.2.2.1
  unfold wp_Mod_number4
  refine s_vrd hF h0 hp hps hst (fun e y y1 y2 y3 => ?_) (fun v q y y1 y2 y3 y4 => ?_)
  · have he : nm4 T most what st p = .error e := by unfold nm4; rw [y1]
    have f : ∀ s l4, j_Mod_number4_28 post (nI st) (nI most) (nI what) l4 s y := fun s l4 => by
      unfold j_Mod_number4_28
      exact s_flt y3.ne ⟨fun _ => pe e y he y2 y3, fun z => absurd z y3.ne⟩
    unfold j_Mod_number4_23
    exact ⟨fun _ => f _ _, fun _ => ⟨fun _ => f _ _, fun _ => f _ _⟩⟩
  · have f := vrd_ok hT y1
    have e1 : nm4 T most what st p = if most < v then .error what else .ok (v, q) := by unfold nm4; rw [y1]
    refine oob_tests (post := True) f.1 (show (nI most).toInt64 = lN most from nI_l (by omega)) (by omega) (fun c => ?_) (fun c => ?_)
    · rw [if_pos c] at e1
      have fl : Flt (setI y 0 69 (nI what)) what := ⟨gI_at, hw, hw2⟩
      unfold j_Mod_number4_23 j_Mod_number4_28
      exact s_fl1 y4 ⟨fun _ => pe what _ e1 (Fg.trans y2 (Fg.i ⟨rfl, by decide⟩)) fl, fun z => absurd z fl.ne⟩
    · rw [if_neg (by omega)] at e1
      unfold j_Mod_number4_28
      refine s_fl0 ⟨fun z => absurd y4 z, fun _ => ?_⟩
      rw [lN_i]
      exact pk v q y e1 y2 y3 y4
theorem s_one {post : Int32 → St → Prop} {ty : Nat} (hF : FiM x T n) (h0 : fI x 0 69 = 0) (hp : fI x 0 67 = nI p) (h68 : fI x 0 68 = nI st) (h38 : fI x 0 38 = nI ty) (hty : ty < 4) (hps : p ≤ st) (hst : st ≤ n) (hP : PoM x Q) (hQ : Q.length < 50000) (ho : oF Q Q.length + 255 ≤ 160000)
    (pe : ∀ e y, tld T ty st p = .error e → FrTo x y → Flt y e → post (-1) y)
    (pk : ∀ v q y, tld T ty st p = .ok (v, q) → FrTd x y → fI y 0 69 = 0 → fI y 0 67 = nI q → PoM y (Q ++ [v]) → (∀ r, r ≠ 48 → r ≠ 49 → r ≠ 55 → r ≠ 56 → r ≠ 57 → fA y r = fA x r) → fI y 0 68 = nI st → fI y 0 38 = nI ty → post (nI Q.length) y) : wp_Mod_openOne post x := by
  have hT := hF.2.2.1
  have n47 : fN x 47 = 2 := hF.1 47
  have n48 : fN x 48 = 2 := hF.1 48
  have n49 : fN x 49 = 512 := hF.1 49
  unfold wp_Mod_openOne
  rw [show (0 : Int32) = nI 0 from rfl]
  refine s_told (i := 0) hF h0 hp h68 h38 hty (by decide) hps hst (fun e y y1 y2 y3 => br_f y3.ne (pe e y y1 y2 y3)) (fun v q y y1 y2 y3 y4 y5 y6 => br_t y3 ?_)
  have yN : ∀ o, fN y o = fN x o := fun o => by show y.2.2.2.2.2 o = _; rw [y2.2.2.2.2.2]
  have yL : LM y := fun o => (yN o).trans (hF.1 o)
  have yP : PoM y Q := hP.cg (y2.1 0 93 (by decide)) (y2.1 0 94 (by decide)) (y2.2.2.2.2.1 54 (by decide)) (y2.2.2.2.1 55 (by decide)) (y2.2.2.2.1 56 (by decide)) (y2.2.2.2.1 57 (by decide))
  have y38 : fI y 0 38 = nI ty := (y2.1 0 38 (by decide)).trans h38
  have vp := tld_pv hT y1
  have len : v.2.length ≤ 255 := by
    by_cases c3 : ty = 3
    · exact (vp.1 c3).1.1
    · rw [vp.2.1 c3]; exact Nat.zero_le _
  have call : (∀ j, j < v.2.length → vp_in (0 + nI j) (fN y 49) ∧ rA y 49 (0 + nI j) = v.2.getD j 0) → j_Mod_openOne_56 post (nI v.2.length) 0 49 v.1 y := fun hj => by
    unfold j_Mod_openOne_56
    refine s_poolAdd (t := v.2) yL yP hQ (by omega) ⟨by decide, by decide, by decide⟩ hj (fun z z1 z2 => ?_)
    exact pk v q z y1 (Fg.trans y2.td z1.td) ((z1.1 0 69 (by decide)).trans y3) ((z1.1 0 67 (by decide)).trans y4) z2 (fun r r1 r2 r3 r4 r5 => (z1.2.2.2.1 r (by omega)).trans (y2.2.2.2.1 r (by omega))) ((z1.1 0 68 (by decide)).trans ((y2.1 0 68 (by decide)).trans h68)) ((z1.1 0 38 (by decide)).trans y38)
  have c33 : ∀ s, s = v.1 → j_Mod_openOne_33 post s y := fun s hs => by
    unfold j_Mod_openOne_33
    rw [y38, hs]
    by_cases c3 : ty = 3
    · obtain ⟨t1, t2, t3⟩ := y5.2 c3
      refine bn_t (by rw [c3]; rfl) ⟨by rw [yN]; exact vp_in_nI (n := 0) (by omega) (by omega), ?_⟩
      rw [show rA y 48 0 = nI v.2.length from t2]
      refine call (fun j hj => ?_)
      have t3j := t3 j hj
      rw [Nat.mul_zero, Nat.zero_add] at t3j
      rw [Int32.zero_add, yN]
      exact ⟨vp_in_nI (by omega) (by omega), by rw [rA_nI (by omega)]; exact t3j⟩
    · have e0 : v.2 = [] := vp.2.1 c3
      refine bn_f (fun z => c3 (nI_inj (b := 3) (by omega) (by decide) z)) ?_
      have := call (fun j hj => by rw [e0] at hj; exact absurd hj (Nat.not_lt_zero _))
      rw [e0] at this
      exact this
  rw [y38]
  by_cases c3 : ty = 3
  · exact bn_t (by rw [c3]; rfl) (c33 _ (vp.1 c3).2.symm)
  · refine bn_f (fun z => c3 (nI_inj (b := 3) (by omega) (by decide) z)) ⟨by rw [yN]; exact vp_in_nI (n := 0) (by omega) (by omega), c33 _ ?_⟩
    rw [rL_nI (by decide)]
    exact y5.1 c3
/-- what is told of a chunk -/
theorem s_openTold {post : St → Prop} {wh c : Nat} (hF : FiM x T n) (hw : WfS F) (hR : RepM x 1 F) (hc : c < ncol F) (h0 : fI x 0 69 = 0) (hp : fI x 0 67 = nI p) (hps : p ≤ st) (hst : st ≤ n) (hwh : wh < 13400) (hP : PoM x Q) (hQ : Q.length + 2 ≤ 50000) (ho : oF Q Q.length + 510 ≤ 160000)
    (pe : ∀ e y, tdR T (tyC F c) st p = .error e → FrTd x y → Flt y e → vp_in (nI wh) (fN y 50) → post y)
    (pk : ∀ t q Z y, tdR T (tyC F c) st p = .ok (t, q) → FrTd x y → fI y 0 69 = 0 → fI y 0 67 = nI q → PoM y (Q ++ Z) → KtM y F (Q ++ Z) wh c t → (∀ r k, r = 50 ∨ r = 51 ∨ r = 61 ∨ r = 62 ∨ r = 63 ∨ r = 64 → k ≠ wh → fA y r k = fA x r k) → Z.length ≤ 2 → oF (Q ++ Z) (Q ++ Z).length + p ≤ oF Q Q.length + q → post y) : wp_Mod_openTold post (nI wh) (nI c) (nI st) x := by
  have hT := hF.2.2.1
  have hn := hF.2.1
  obtain ⟨ty1, ty2⟩ := tyC_ok hw hc
  have uN : ∀ (u : St), FrTd x u → ∀ o, fN u o = fN x o := fun u hu o => by show u.2.2.2.2.2 o = _; rw [hu.2.2.2.2.2]
  have vr : ∀ r, r = 50 ∨ r = 51 ∨ r = 61 ∨ r = 62 ∨ r = 63 ∨ r = 64 → ∀ u, FrTd x u → vp_in (nI wh) (fN u r) := fun r hr u hu => by
    rw [uN u hu]
    have : fN x r = 13400 := by
      rcases hr with z | z | z | z | z | z <;> rw [z]
      · exact hF.1 50
      · exact hF.1 51
      · exact hF.1 61
      · exact hF.1 62
      · exact hF.1 63
      · exact hF.1 64
    exact vp_in_nI (by omega) (by omega)
  have sA : ∀ {u : St} {r : Nat} {v : Int32}, FrTd x u → r = 50 ∨ r = 51 ∨ r = 61 ∨ r = 62 ∨ r = 63 ∨ r = 64 → FrTd x (setA u r (nI wh) v) := fun hu hr => Fg.trans hu (Fg.a (by omega))
  have sF : ∀ {u : St} {e : Nat}, FrTd x u → FrTd x (setI u 0 69 (nI e)) := fun hu => Fg.trans hu (Fg.i ⟨rfl, by decide⟩)
  have kF : ∀ {u : St} {r : Nat} {v : Int32} {e : Nat}, Flt u e → Flt (setA u r (nI wh) v) e := fun h => h
  have flI : ∀ (u : St) e, 0 < e → e < 100 → Flt (setI u 0 69 (nI e)) e := fun u e a b => ⟨gI_at, a, b⟩
  -- behind a fault
  have F6 : ∀ (u : St) e l4 l6 l8 s0, Flt u e → tdR T (tyC F c) st p = .error e → FrTd x u → j_Mod_openTold_167 post (nI wh) (nI c) (nI st) l4 l6 l8 s0 (nI wh) 62 u := fun u e l4 l6 l8 s0 hf he hu => by
    unfold j_Mod_openTold_167
    refine ⟨vr 62 (by decide) u hu, nm_e ⟨vr 63 (by decide) _ (sA hu (by decide)), nm_e ⟨vr 64 (by decide) _ (sA (sA hu (by decide)) (by decide)), nm_e ⟨fun _ => ?_, fun z => absurd z hf.ne⟩⟩⟩⟩
    exact pe e _ he (sA (sA (sA hu (by decide)) (by decide)) (by decide)) hf (vr 50 (by decide) _ (sA (sA (sA hu (by decide)) (by decide)) (by decide)))
  have F5 : ∀ (u : St) e l4 l6 l8 s0, Flt u e → tdR T (tyC F c) st p = .error e → FrTd x u → j_Mod_openTold_143 post (nI wh) (nI c) (nI st) l4 l6 l8 s0 u := fun u e l4 l6 l8 s0 hf he hu => by
    unfold j_Mod_openTold_143
    exact s_flt hf.ne ⟨fun _ => F6 u e _ _ _ _ hf he hu, fun z => absurd z hf.ne⟩
  have F4 : ∀ (u : St) e l4 l6 s0, Flt u e → tdR T (tyC F c) st p = .error e → FrTd x u → j_Mod_openTold_93 post (nI wh) (nI c) (nI st) l4 l6 s0 (nI wh) 51 u := fun u e l4 l6 s0 hf he hu => by
    unfold j_Mod_openTold_93 j_Mod_openTold_138
    refine ⟨vr 51 (by decide) u hu, nm_e (s_num40 (kF hf).ne ⟨vr 61 (by decide) _ (sA hu (by decide)), nm_e (s_vrd0 (kF (kF hf)).ne ?_)⟩)⟩
    have g : ∀ s1, j_Mod_openTold_143 post (nI wh) (nI c) (nI st) l4 l6 0 s1 (setA (setA u 51 (nI wh) s0) 61 (nI wh) 0) := fun s1 => F5 _ e _ _ _ _ (kF (kF hf)) he (sA (sA hu (by decide)) (by decide))
    exact ⟨fun _ => g 1, fun _ => ⟨vr 61 (by decide) _ (sA (sA hu (by decide)) (by decide)), fun _ => g 0, fun _ => g 1⟩⟩
  have F3 : ∀ (u : St) e l4 l6 s0, Flt u e → tdR T (tyC F c) st p = .error e → FrTd x u → j_Mod_openTold_58 post (nI wh) (nI c) (nI st) l4 l6 s0 u := fun u e l4 l6 s0 hf he hu => by
    unfold j_Mod_openTold_58 j_Mod_openTold_84
    exact s_flt hf.ne ⟨fun _ => F4 u e _ _ _ hf he hu, fun _ => ⟨fun _ => F4 u e _ _ _ hf he hu, fun _ => F4 u e _ _ _ hf he hu⟩⟩
  have F2 : ∀ (u : St) e l4 s0, Flt u e → tdR T (tyC F c) st p = .error e → FrTd x u → j_Mod_openTold_37 post (nI wh) (nI c) (nI st) l4 s0 (nI wh) 50 u := fun u e l4 s0 hf he hu => by
    unfold j_Mod_openTold_37
    refine ⟨vr 50 (by decide) u hu, nm_e (s_vrd0 (kF hf).ne ⟨fun _ => ?_, fun _ => ?_⟩)⟩ <;> exact F3 _ e _ _ _ (kF hf) he (sA hu (by decide))
  -- bytes and pages: too many are as many as there never are
  have clip : ∀ {v : Nat} {A : Int32 → Prop}, v < 2 ^ 64 → A (nI (clp v)) → ((lg_cmp (lN v) 0) < 0 → A 80000) ∧ (¬ (lg_cmp (lN v) 0) < 0 → (((lg_cmp (lN v) 40000) ≤ 0 → A (lN v).toInt32) ∧ (¬ (lg_cmp (lN v) 40000) ≤ 0 → A 80000))) := fun {v A} hv ha => by
    refine oob_tests (post := True) (k := 40000) hv rfl (by decide) (fun h => ?_) (fun h => ?_)
    · have e : clp v = 80000 := by unfold clp; rw [if_neg (by omega)]
      rw [e] at ha
      exact ha
    · have e : clp v = v := by unfold clp; rw [if_pos h]
      rw [e] at ha
      rw [lN_i]
      exact ha
  unfold wp_Mod_openTold j_Mod_openTold_28
  refine s_vrd hF h0 hp hps hst (fun e y y1 y2 y3 => ?_) (fun b q0 y y1 y2 y3 y4 => ?_)
  · have he : tdR T (tyC F c) st p = .error e := by unfold tdR; rw [y1]
    exact ⟨fun _ => F2 y e _ _ y3 he y2.td, fun _ => ⟨fun _ => F2 y e _ _ y3 he y2.td, fun _ => F2 y e _ _ y3 he y2.td⟩⟩
  · have v0 := vrd_ok hT y1
    have et : tdR T (tyC F c) st p = (match vrd T st q0 with
      | .error e => .error e
      | .ok (m, q1) => if m = 0 then .error 18 else match nm4 T 10000 16 st q1 with
        | .error e => .error e
        | .ok (e, q2) => tdR2 T (tyC F c) st b m e q2) := by unfold tdR; rw [y1]
    refine clip (A := fun s => j_Mod_openTold_37 post (nI wh) (nI c) (nI st) (lN b) s (nI wh) 50 y) v0.1 ?_
    unfold j_Mod_openTold_37
    refine ⟨vr 50 (by decide) y y2.td, nm_e ?_⟩
    have fz : FrTd x (setA y 50 (nI wh) (nI (clp b))) := sA y2.td (by decide)
    generalize hz : setA y 50 (nI wh) (nI (clp b)) = z at fz
    have zI : ∀ k, fI z 0 k = fI y 0 k := fun k => by rw [← hz]; rfl
    have z50 : fA z 50 wh = nI (clp b) := by rw [← hz, gA_on (by omega)]
    have zF : ∀ r k, k ≠ wh → fA z r k = fA x r k := fun r k hk => by rw [← hz, gA_off (by omega) hk, show fA y r = fA x r from y2.2.2.2.1 r id]
    have zP : PoM z Q := by rw [← hz]; exact hP.cg (y2.1 0 93 (by decide)) (y2.1 0 94 (by decide)) (y2.2.2.2.2.1 54 id) ((gA_ne (by decide)).trans (y2.2.2.2.1 55 id)) ((gA_ne (by decide)).trans (y2.2.2.2.1 56 id)) ((gA_ne (by decide)).trans (y2.2.2.2.1 57 id))
    clear hz
    refine s_vrd (fz.fi hF) ((zI 69).trans y4) ((zI 67).trans y3) v0.2.2 hst (fun e u u1 u2 u3 => ?_) (fun m q1 u u1 u2 u3 u4 => ?_)
    · have he : tdR T (tyC F c) st p = .error e := by rw [et, u1]
      exact ⟨fun _ => F3 u e _ _ _ u3 he (Fg.trans fz u2.td), fun _ => F3 u e _ _ _ u3 he (Fg.trans fz u2.td)⟩
    · have v1 := vrd_ok hT u1
      rw [u1] at et
      simp only at et
      have fu : FrTd x u := Fg.trans fz u2.td
      by_cases cm : m = 0
      · rw [if_pos cm] at et
        refine ⟨fun w => absurd ((lg_cmp_eq _ _).mpr (by rw [cm]; rfl)) w, fun _ => ?_⟩
        have g := fun s => F4 (setI u 0 69 18) 18 (lN b) (lN m) s (flI u 18 (by decide) (by decide)) et (sF fu)
        unfold j_Mod_openTold_58 j_Mod_openTold_84
        exact s_fl1 u4 ⟨fun _ => g _, fun _ => ⟨fun _ => g _, fun _ => g _⟩⟩
      · rw [if_neg cm] at et
        refine ⟨fun _ => ?_, fun w => absurd ((lN0 (by omega)).mp ((lg_cmp_eq _ _).mp w)) cm⟩
        unfold j_Mod_openTold_58 j_Mod_openTold_84
        refine s_fl0 (clip (A := fun s => j_Mod_openTold_93 post (nI wh) (nI c) (nI st) (lN b) (lN m) s (nI wh) 51 u) v1.1 ?_)
        unfold j_Mod_openTold_93
        refine ⟨vr 51 (by decide) u fu, nm_e ?_⟩
        have fg : FrTd x (setA u 51 (nI wh) (nI (clp m))) := sA fu (by decide)
        generalize hg : setA u 51 (nI wh) (nI (clp m)) = g at fg
        have gI : ∀ k, fI g 0 k = fI u 0 k := fun k => by rw [← hg]; rfl
        have g51 : fA g 51 wh = nI (clp m) := by rw [← hg, gA_on (by omega)]
        have g50 : fA g 50 wh = nI (clp b) := by rw [← hg, gA_ne (by decide), show fA u 50 = fA z 50 from u2.2.2.2.1 50 id]; exact z50
        have gF : ∀ r k, k ≠ wh → fA g r k = fA x r k := fun r k hk => by rw [← hg, gA_off (by omega) hk, show fA u r = fA z r from u2.2.2.2.1 r id]; exact zF r k hk
        have gP : PoM g Q := by rw [← hg]; exact zP.cg (u2.1 0 93 (by decide)) (u2.1 0 94 (by decide)) (u2.2.2.2.2.1 54 id) ((gA_ne (by decide)).trans (u2.2.2.2.1 55 id)) ((gA_ne (by decide)).trans (u2.2.2.2.1 56 id)) ((gA_ne (by decide)).trans (u2.2.2.2.1 57 id))
        clear hg
        rw [show (10000 : Int32) = nI 10000 from rfl, show (16 : Int32) = nI 16 from rfl]
        refine s_num4 (fg.fi hF) ((gI 69).trans u4) ((gI 67).trans u3) v1.2.2 hst (by decide) (by decide) (by decide) (fun e a a1 a2 a3 => ?_) (fun e q2 a a1 a2 a3 a4 => ?_)
        · have he : tdR T (tyC F c) st p = .error e := by rw [et, a1]
          have fa : FrTd x a := Fg.trans fg a2.td
          refine ⟨vr 61 (by decide) a fa, nm_e (s_vrd0 (kF a3).ne ?_)⟩
          have g' : ∀ s0, j_Mod_openTold_143 post (nI wh) (nI c) (nI st) (lN b) (lN m) 0 s0 (setA a 61 (nI wh) 0) := fun s0 => F5 _ e _ _ _ _ (kF a3) he (sA fa (by decide))
          unfold j_Mod_openTold_138
          exact ⟨fun _ => g' 1, fun _ => ⟨vr 61 (by decide) _ (sA fa (by decide)), fun _ => g' 0, fun _ => g' 1⟩⟩
        · have v2 := nm4_ok hT a1
          rw [a1] at et
          simp only at et
          have fa : FrTd x a := Fg.trans fg a2.td
          refine ⟨vr 61 (by decide) a fa, nm_e ?_⟩
          have fb : FrTd x (setA a 61 (nI wh) (nI e)) := sA fa (by decide)
          generalize hb : setA a 61 (nI wh) (nI e) = b' at fb
          have bI : ∀ k, fI b' 0 k = fI a 0 k := fun k => by rw [← hb]; rfl
          have b61 : fA b' 61 wh = nI e := by rw [← hb, gA_on (by omega)]
          have b50 : fA b' 50 wh = nI (clp b) := by rw [← hb, gA_ne (by decide), show fA a 50 = fA g 50 from a2.2.2.2.1 50 id]; exact g50
          have b51 : fA b' 51 wh = nI (clp m) := by rw [← hb, gA_ne (by decide), show fA a 51 = fA g 51 from a2.2.2.2.1 51 id]; exact g51
          have bF : ∀ r k, k ≠ wh → fA b' r k = fA x r k := fun r k hk => by rw [← hb, gA_off (by omega) hk, show fA a r = fA g r from a2.2.2.2.1 r id]; exact gF r k hk
          have bP : PoM b' Q := by rw [← hb]; exact gP.cg (a2.1 0 93 (by decide)) (a2.1 0 94 (by decide)) (a2.2.2.2.2.1 54 id) ((gA_ne (by decide)).trans (a2.2.2.2.1 55 id)) ((gA_ne (by decide)).trans (a2.2.2.2.1 56 id)) ((gA_ne (by decide)).trans (a2.2.2.2.1 57 id))
          clear hb
          refine s_vrd (fb.fi hF) ((bI 69).trans a4) ((bI 67).trans a3) v2.2.2 hst (fun er d d1 d2 d3 => ?_) (fun ms q3 d d1 d2 d3 d4 => ?_)
          · have he : tdR T (tyC F c) st p = .error er := by rw [et]; unfold tdR2; rw [d1]
            have fd : FrTd x d := Fg.trans fb d2.td
            have g' : ∀ s0, j_Mod_openTold_143 post (nI wh) (nI c) (nI st) (lN b) (lN m) 0 s0 d := fun s0 => F5 _ er _ _ _ _ d3 he fd
            unfold j_Mod_openTold_138
            exact ⟨fun _ => g' 1, fun _ => ⟨vr 61 (by decide) _ fd, fun _ => g' 0, fun _ => g' 1⟩⟩
          · have v3 := vrd_ok hT d1
            have fd : FrTd x d := Fg.trans fb d2.td
            have et2 : tdR T (tyC F c) st p = (if e < ms then .error 7 else if ms = e then .ok ((b, m, e, ms, (0, []), (0, [])), q3) else match tld T (tyC F c) st q3 with
              | .error e => .error e
              | .ok (lo, q1) => match tld T (tyC F c) st q1 with
                | .error e => .error e
                | .ok (hi, q2) => .ok ((b, m, e, ms, lo, hi), q2)) := by rw [et]; unfold tdR2; rw [d1]
            have d61 : fA d 61 wh = nI e := by rw [show fA d 61 = fA b' 61 from d2.2.2.2.1 61 id]; exact b61
            have r61 : rA d 61 (nI wh) = nI e := by rw [rA_nI (by omega)]; exact d61
            rw [r61]
            have ot := oob_tests (post := True) (A := j_Mod_openTold_138 post (nI wh) (nI c) (nI st) (lN b) (lN m) (lN ms) d) (B := j_Mod_openTold_143 post (nI wh) (nI c) (nI st) (lN b) (lN m) (lN ms) 0 d) v3.1 (show (nI e).toInt64 = lN e from nI_l (by omega)) (by omega) (fun cc => ?_) (fun cc => ?_)
            · exact ⟨ot.1, fun w => ⟨vr 61 (by decide) d fd, ot.2 w⟩⟩
            · rw [if_pos cc] at et2
              have fl := flI d 7 (by decide) (by decide)
              unfold j_Mod_openTold_138 j_Mod_openTold_143
              exact s_fl1 d4 ⟨fun _ => F6 _ 7 _ _ _ _ fl et2 (sF fd), fun w => absurd w fl.ne⟩
            · rw [if_neg (by omega)] at et2
              unfold j_Mod_openTold_143
              refine s_fl0 ⟨fun w => absurd d4 w, fun _ => ?_⟩
              rw [lN_i]
              unfold j_Mod_openTold_167
              have fd1 := sA (v := nI ms) fd (show 62 = 50 ∨ 62 = 51 ∨ 62 = 61 ∨ 62 = 62 ∨ 62 = 63 ∨ 62 = 64 by decide)
              have fd2 := sA (v := -1) fd1 (show 63 = 50 ∨ 63 = 51 ∨ 63 = 61 ∨ 63 = 62 ∨ 63 = 63 ∨ 63 = 64 by decide)
              have fh := sA (v := -1) fd2 (show 64 = 50 ∨ 64 = 51 ∨ 64 = 61 ∨ 64 = 62 ∨ 64 = 63 ∨ 64 = 64 by decide)
              refine ⟨vr 62 (by decide) d fd, nm_e ⟨vr 63 (by decide) _ fd1, nm_e ⟨vr 64 (by decide) _ fd2, nm_e ?_⟩⟩⟩
              generalize hh : setA (setA (setA d 62 (nI wh) (nI ms)) 63 (nI wh) (-1)) 64 (nI wh) (-1) = h at fh
              have hI : ∀ k, fI h 0 k = fI d 0 k := fun k => by rw [← hh]; rfl
              have h62 : fA h 62 wh = nI ms := by rw [← hh, gA_ne (by decide), gA_ne (by decide), gA_on (by omega)]
              have h63 : fA h 63 wh = -1 := by rw [← hh, gA_ne (by decide), gA_on (by omega)]
              have h64 : fA h 64 wh = -1 := by rw [← hh, gA_on (by omega)]
              have hA : ∀ r, r ≠ 62 → r ≠ 63 → r ≠ 64 → fA h r = fA b' r := fun r r1 r2 r3 => by rw [← hh, gA_ne r3, gA_ne r2, gA_ne r1]; exact d2.2.2.2.1 r id
              have hF' : ∀ r k, k ≠ wh → fA h r k = fA x r k := fun r k hk => by rw [← hh, gA_off (by omega) hk, gA_off (by omega) hk, gA_off (by omega) hk, show fA d r = fA b' r from d2.2.2.2.1 r id]; exact bF r k hk
              have hL' : ∀ a, fL h a = fL b' a := fun a => by rw [← hh]; exact d2.2.2.2.2.1 a id
              clear hh fd1 fd2
              have hPo : PoM h Q := bP.cg ((hI 93).trans (d2.1 0 93 (by decide))) ((hI 94).trans (d2.1 0 94 (by decide))) (hL' 54) (hA 55 (by decide) (by decide) (by decide)) (hA 56 (by decide) (by decide) (by decide)) (hA 57 (by decide) (by decide) (by decide))
              have h69 : fI h 0 69 = 0 := (hI 69).trans d4
              refine ⟨fun w => absurd h69 w, fun _ => ⟨vr 62 (by decide) h fh, vr 61 (by decide) h fh, ?_⟩⟩
              rw [show rA h 62 (nI wh) = nI ms from by rw [rA_nI (by omega)]; exact h62, show rA h 61 (nI wh) = nI e from by rw [rA_nI (by omega), hA 61 (by decide) (by decide) (by decide)]; exact b61]
              have h61 : fA h 61 wh = nI e := by rw [hA 61 (by decide) (by decide) (by decide)]; exact b61
              have h50 : fA h 50 wh = nI (clp b) := by rw [hA 50 (by decide) (by decide) (by decide)]; exact b50
              have h51 : fA h 51 wh = nI (clp m) := by rw [hA 51 (by decide) (by decide) (by decide)]; exact b51
              by_cases ce : ms = e
              · rw [if_pos ce] at et2
                refine bn_t (by rw [ce]) ?_
                refine pk _ q3 [] h et2 fh h69 ((hI 67).trans d3) (by rw [List.append_nil]; exact hPo) ⟨h50, h51, h61, h62, cm, v2.1, by show ms ≤ e; omega, fun _ => ⟨h63, h64⟩, fun w => by have w : ms < e := w; omega⟩ (fun r k _ hk => hF' r k hk) (Nat.zero_le _) (by rw [List.append_nil]; omega)
              · rw [if_neg ce] at et2
                refine bn_f (fun w => ce (nI_inj (by omega) (by omega) w)) (s_typeOf1 (fh.fi hF).1 hw (fh.rep hR) hc (nm_e (nm_e ?_)))
                rw [ty1]
                have fi : FrTd x (setI (setI h 0 38 (nI (tyC F c))) 0 68 (nI st)) := Fg.trans fh (Fg.trans (Fg.i ⟨rfl, by decide⟩) (Fg.i ⟨rfl, by decide⟩))
                generalize hi : setI (setI h 0 38 (nI (tyC F c))) 0 68 (nI st) = i at fi
                have iI : ∀ k, k ≠ 38 → k ≠ 68 → fI i 0 k = fI h 0 k := fun k k1 k2 => by rw [← hi]; exact (gI_ne k2).trans (gI_ne k1)
                have i38 : fI i 0 38 = nI (tyC F c) := by rw [← hi]; exact (gI_ne (by decide)).trans gI_at
                have i68 : fI i 0 68 = nI st := by rw [← hi]; exact gI_at
                have iA : ∀ r, fA i r = fA h r := fun r => by rw [← hi]; rfl
                have iP : PoM i Q := by rw [← hi]; exact hPo.cg ((gI_ne (by decide)).trans (gI_ne (by decide))) ((gI_ne (by decide)).trans (gI_ne (by decide))) rfl rfl rfl rfl
                clear hi
                have i69 : fI i 0 69 = 0 := (iI 69 (by decide) (by decide)).trans h69
                refine s_one (fi.fi hF) i69 ((iI 67 (by decide) (by decide)).trans ((hI 67).trans d3)) i68 i38 ty2 v3.2.2 hst iP (by omega) (by omega) (fun er j j1 j2 j3 => ?_) (fun lo q4 j j1 j2 j3 j4 j5 j6 j7 j8 => ?_)
                · have he : tdR T (tyC F c) st p = .error er := by rw [et2, j1]
                  have fj : FrTd x j := Fg.trans fi j2.td
                  refine ⟨vr 63 (by decide) j fj, nm_e ⟨fun _ => ?_, fun w => absurd w (kF j3).ne⟩⟩
                  unfold j_Mod_openTold_250
                  exact ⟨vr 64 (by decide) _ (sA fj (by decide)), nm_e (pe er _ he (sA (sA fj (by decide)) (by decide)) (kF (kF j3)) (vr 50 (by decide) _ (sA (sA fj (by decide)) (by decide))))⟩
                · have fj : FrTd x j := Fg.trans fi j2
                  have t4 := tld_ok hT j1
                  have b4 := tld_by hT j1
                  rw [j1] at et2
                  simp only at et2
                  refine ⟨vr 63 (by decide) j fj, nm_e ⟨fun w => absurd j3 w, fun _ => ?_⟩⟩
                  have fk : FrTd x (setA j 63 (nI wh) (nI Q.length)) := sA fj (by decide)
                  generalize hk : setA j 63 (nI wh) (nI Q.length) = k at fk
                  have kI : ∀ o, fI k 0 o = fI j 0 o := fun o => by rw [← hk]; rfl
                  have k63 : fA k 63 wh = nI Q.length := by rw [← hk, gA_on (by omega)]
                  have kA : ∀ r, r ≠ 63 → r ≠ 48 → r ≠ 49 → r ≠ 55 → r ≠ 56 → r ≠ 57 → fA k r = fA h r := fun r r0 r1 r2 r3 r4 r5 => by rw [← hk, gA_ne r0, j6 r r1 r2 r3 r4 r5]; exact iA r
                  have kF' : ∀ r o, r = 50 ∨ r = 51 ∨ r = 61 ∨ r = 62 ∨ r = 63 ∨ r = 64 → o ≠ wh → fA k r o = fA x r o := fun r o hr ho' => by rw [← hk, gA_off (by omega) ho', j6 r (by omega) (by omega) (by omega) (by omega) (by omega), iA]; exact hF' r o ho'
                  have kP : PoM k (Q ++ [lo]) := by rw [← hk]; exact j5.cg rfl rfl rfl (gA_ne (by decide)) (gA_ne (by decide)) (gA_ne (by decide))
                  clear hk
                  have lq : (Q ++ [lo]).length = Q.length + 1 := by rw [List.length_append]; rfl
                  have lo255 : lo.2.length ≤ 255 := by
                    have vp := tld_pv hT j1
                    by_cases c3 : tyC F c = 3
                    · exact (vp.1 c3).1.1
                    · rw [vp.2.1 c3]; exact Nat.zero_le _
                  have oq : oF (Q ++ [lo]) (Q ++ [lo]).length = oF Q Q.length + lo.2.length := by rw [lq, oF_a2]
                  refine s_one (fk.fi hF) ((kI 69).trans j3) ((kI 67).trans j4) ((kI 68).trans j7) ((kI 38).trans j8) ty2 t4.2.1 hst kP (by omega) (by omega) (fun er l l1 l2 l3 => ?_) (fun hi q5 l l1 l2 l3 l4 l5 l6 l7 l8 => ?_)
                  · have he : tdR T (tyC F c) st p = .error er := by rw [et2, l1]
                    have fl : FrTd x l := Fg.trans fk l2.td
                    unfold j_Mod_openTold_250
                    exact ⟨vr 64 (by decide) _ fl, nm_e (pe er _ he (sA fl (by decide)) (kF l3) (vr 50 (by decide) _ (sA fl (by decide))))⟩
                  · rw [l1] at et2
                    have fl : FrTd x l := Fg.trans fk l2
                    have b5 := tld_by hT l1
                    have lA : ∀ r, r ≠ 48 → r ≠ 49 → r ≠ 55 → r ≠ 56 → r ≠ 57 → fA l r = fA k r := l6
                    unfold j_Mod_openTold_250
                    refine ⟨vr 64 (by decide) _ fl, nm_e ?_⟩
                    have eQ : Q ++ [lo, hi] = (Q ++ [lo]) ++ [hi] := by rw [List.append_assoc]; rfl
                    have l2q : ((Q ++ [lo]) ++ [hi]).length = Q.length + 2 := by rw [List.length_append (as := Q ++ [lo]), lq]; rfl
                    refine pk _ q5 [lo, hi] _ et2 (sA fl (by decide)) l3 l4 ?_ ?_ (fun r o hr ho' => ?_) (Nat.le_refl _) ?_
                    · rw [eQ]
                      exact l5.cg rfl rfl rfl (gA_ne (by decide)) (gA_ne (by decide)) (gA_ne (by decide))
                    · rw [eQ]
                      have g : ∀ r, r = 50 ∨ r = 51 ∨ r = 61 ∨ r = 62 → fA (setA l 64 (nI wh) (nI (Q ++ [lo]).length)) r wh = fA h r wh := fun r hr => by rw [gA_ne (by omega), lA r (by omega) (by omega) (by omega) (by omega) (by omega), kA r (by omega) (by omega) (by omega) (by omega) (by omega) (by omega)]
                      refine ⟨(g 50 (by decide)).trans h50, (g 51 (by decide)).trans h51, (g 61 (by decide)).trans h61, (g 62 (by decide)).trans h62, cm, v2.1, by show ms ≤ e; omega, fun w => absurd w ce, fun _ => ⟨Q.length, Q.length + 1, by omega, by omega, ?_, ?_, ?_, ?_, tld_pv hT j1, tld_pv hT l1⟩⟩
                      · rw [gA_ne (by decide), lA 63 (by decide) (by decide) (by decide) (by decide) (by decide)]; exact k63
                      · rw [gA_on (by omega), lq]
                      · rw [pvd_l (by omega)]; exact pvd_a2
                      · rw [← lq]; exact pvd_a2
                    · rw [gA_off (by omega) ho', lA r (by omega) (by omega) (by omega) (by omega) (by omega)]
                      exact kF' r o hr ho'
                    · rw [eQ, oF_all, oq]
                      show oF Q Q.length + lo.2.length + (0 + hi.2.length) + p ≤ _
                      omega
end
