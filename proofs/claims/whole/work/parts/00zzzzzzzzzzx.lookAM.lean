/-! all groups are looked at, model -/
/-- the rows that are found -/
def fndR (F : List SFd) (G : List Nat) (CK : List (List PgW)) (Q : Qy) : List Nat := (List.range (smN G)).filter (fun r => decide (Q.2.2.1 = []) || hit F G CK Q r)
def skT (F : List SFd) (Q : Qy) (G : List Nat) (CK : List (List PgW)) : Nat × Nat := if Q.2.2.1 = [] then (0, 0) else skA F Q G CK G.length
section
variable {x y : St} {F : List SFd} {G : List Nat} {K : List ChT} {CK : List (List PgW)} {Pl : List PV} {g j s : Nat} {Q : Qy}
theorem stp_n (hs : s < 3) (hQ : KqM x s Q) (h117 : fI x 0 117 = nI s) (hL : LM x) : rA x 79 ((4 * (fI x 0 117)) + 2) = nI Q.2.2.1.length ∧ vp_in ((4 * (fI x 0 117)) + 2) (fN x 79) ∧ Q.2.2.1.length ≤ 64 := by
  have e : (4 * (fI x 0 117)) + 2 = nI (4 * s + 2) := by
    rw [h117]
    show nI 4 * nI s + nI 2 = _
    rw [nI_mul, nI_add]
  rw [e, rA_nI (by omega), show fN x 79 = 12 from hL 79]
  exact ⟨hQ.1.2.2.1.1, vp_in_nI (by omega) (by decide), hQ.1.2.2.1.2.1⟩
theorem FdM.push {z : St} {L : List Nat} {r : Nat} (h : FdM z L) (hl : L.length < 2000) : FdM (setI (setA z 103 (nI L.length) (nI r)) 0 160 (nI (L.length + 1))) (L ++ [r]) := by
  refine ⟨?_, fun i hi => ?_⟩
  · rw [gI_at, List.length_append]; rfl
  · show upd (fA z 103) (nI L.length).toNatClampNeg (nI r) i = _
    rw [nI_clamp (by omega)]
    rcases gD_snoc (d := (0 : Nat)) hi with ⟨h1, h2⟩ | ⟨h1, h2⟩
    · rw [h2, upd_ne (by omega)]
      exact h.2 i h1
    · rw [h2, h1, upd_at]
/-- with no condition -/
theorem s_lookAll0 {post : St → Prop} (H : RnM x F G K CK Pl) (hs : s < 3) (h117 : fI x 0 117 = nI s) (hQ : KqM x s Q) (hne : Q.2.2.1 = []) (hF0 : FdM x []) (p : ∀ y, FrLk x y → fI y 0 165 = fI x 0 165 → fI y 0 166 = fI x 0 166 → FdM y (List.range (smN G)) → post y) : ∃ n : Nat, wl_Mod_lookAtAll_19 post n 0 0 x := by
  have h2000 := H.1.2.2.2.2.1
  have h500 := H.1.2.2.2.1
  refine lp_Mod_lookAtAll_19 (fun b1 b2 y => ∃ g, g ≤ G.length ∧ nI (smN (G.take g)) = b1 ∧ nI g = b2 ∧ FrLk x y ∧ fI y 0 165 = fI x 0 165 ∧ fI y 0 166 = fI x 0 166 ∧ FdM y (List.range (smN (G.take g)))) (fun _ b2 _ => G.length - b2.toNatClampNeg) ?_ _ _ _ ⟨0, Nat.zero_le _, rfl, rfl, Fg.refl x, rfl, rfl, hF0⟩
  rintro R b1 b2 y ⟨g, hg, rfl, rfl, f, e165, e166, hfd⟩ ih
  have Hy := H.lk f
  have Qy := hQ.lk f
  have y117 : fI y 0 117 = nI s := (f.1 0 117 (fun z => by omega)).trans h117
  obtain ⟨n1, n2, -⟩ := stp_n hs Qy y117 Hy.1.1
  rw [hne] at n1
  have n1 : rA y 79 ((4 * (fI y 0 117)) + 2) = 0 := n1
  unfold j_Mod_lookAtAll_19
  rw [Hy.2.1]
  by_cases c : g = G.length
  · subst c
    rw [List.take_length] at hfd
    exact br_t (by (first | omega | (simp (disch := omega) only [Int32.le_iff_toInt_le, Int32.lt_iff_toInt_lt, z_eq, z_in, nI_toInt, z_cl, z_m1, z_sg, z_255, Int32.reduceToInt] <;> omega) | (simp only [Int32.le_iff_toInt_le, Int32.lt_iff_toInt_lt, z_eq, z_in, z_add, z_sub, z_mul, z_neg, z_nI, z_cl, z_sg, z_255, z_lit, Int32.reduceToInt] <;> omega))) (p y f e165 e166 hfd)
  · have hg : g < G.length := by omega
    have sg := smN_take hg
    have sG := smN_le (G := G) (g := g + 1)
    refine br_f (by (first | omega | (simp (disch := omega) only [Int32.le_iff_toInt_le, Int32.lt_iff_toInt_lt, z_eq, z_in, nI_toInt, z_cl, z_m1, z_sg, z_255, Int32.reduceToInt] <;> omega) | (simp only [Int32.le_iff_toInt_le, Int32.lt_iff_toInt_lt, z_eq, z_in, z_add, z_sub, z_mul, z_neg, z_nI, z_cl, z_sg, z_255, z_lit, Int32.reduceToInt] <;> omega))) ?_
    rw [show fN y 53 = 500 from Hy.1.1 53]
    refine ⟨vp_in_nI (by omega) (by decide), nm_r (e' := nI (smN (G.take (g + 1)))) (by rw [rA_nI (by omega), Hy.1.2.2.1 g hg, nI_add, sg]) ?_⟩
    rw [n1]
    refine ⟨n2, br_t (by decide) ?_⟩
    unfold j_Mod_lookAtAll_108
    refine bn_f (by decide) ?_
    rw [n1]
    refine ⟨n2, br_t (by decide) ?_⟩
    unfold j_Mod_lookAtAll_148
    refine lp_Mod_lookAtAll_151 (fun b1 b2 b3 b4 b5 z => nI (smN (G.take g)) = b1 ∧ nI g = b2 ∧ nI (smN (G.take (g + 1))) = b3 ∧ 1 = b4 ∧ ∃ r, smN (G.take g) ≤ r ∧ r ≤ smN (G.take (g + 1)) ∧ nI r = b5 ∧ FrLk x z ∧ fI z 0 165 = fI x 0 165 ∧ fI z 0 166 = fI x 0 166 ∧ FdM z (List.range r)) (fun _ _ _ _ b5 _ => smN (G.take (g + 1)) - b5.toNatClampNeg) ?_ _ _ _ _ _ _ ⟨rfl, rfl, rfl, rfl, smN (G.take g), Nat.le_refl _, by omega, rfl, f, e165, e166, hfd⟩
    rintro R2 b1 b2 b3 b4 b5 z ⟨rfl, rfl, rfl, rfl, r, r1, r2, rfl, fz, z165, z166, zfd⟩ ih2
    have Hz := H.lk fz
    have z117 : fI z 0 117 = nI s := (fz.1 0 117 (fun z => by omega)).trans h117
    obtain ⟨m1, m2, -⟩ := stp_n hs (hQ.lk fz) z117 Hz.1.1
    rw [hne] at m1
    have m1 : rA z 79 ((4 * (fI z 0 117)) + 2) = 0 := m1
    unfold j_Mod_lookAtAll_151
    by_cases d : r = smN (G.take (g + 1))
    · subst d
      refine br_t (by (first | omega | (simp (disch := omega) only [Int32.le_iff_toInt_le, Int32.lt_iff_toInt_lt, z_eq, z_in, nI_toInt, z_cl, z_m1, z_sg, z_255, Int32.reduceToInt] <;> omega) | (simp only [Int32.le_iff_toInt_le, Int32.lt_iff_toInt_lt, z_eq, z_in, z_add, z_sub, z_mul, z_neg, z_nI, z_cl, z_sg, z_255, z_lit, Int32.reduceToInt] <;> omega))) ?_
      unfold j_Mod_lookAtAll_200
      rw [nI_1]
      refine ih _ _ _ ⟨g + 1, hg, rfl, rfl, fz, z165, z166, zfd⟩ ?_
      rw [nI_clamp (by omega), nI_clamp (by omega)]
      omega
    · refine br_f (by (first | omega | (simp (disch := omega) only [Int32.le_iff_toInt_le, Int32.lt_iff_toInt_lt, z_eq, z_in, nI_toInt, z_cl, z_m1, z_sg, z_255, Int32.reduceToInt] <;> omega) | (simp only [Int32.le_iff_toInt_le, Int32.lt_iff_toInt_lt, z_eq, z_in, z_add, z_sub, z_mul, z_neg, z_nI, z_cl, z_sg, z_255, z_lit, Int32.reduceToInt] <;> omega))) ⟨m2, bn_t m1 ?_⟩
      have e160 := zfd.1
      rw [List.length_range] at e160
      rw [e160, show fN z 103 = 2000 from Hz.1.1 103]
      refine ⟨vp_in_nI (by omega) (by decide), nm_e (nm_r (e' := setI (setA z 103 (nI r) (nI r)) 0 160 (nI (r + 1))) (by show setI _ 0 160 (fI z 0 160 + 1) = _; rw [e160, nI_1]) ?_)⟩
      rw [nI_1]
      have pu := FdM.push (r := r) zfd (by rw [List.length_range]; omega)
      rw [List.length_range, ← List.range_succ] at pu
      refine ih2 _ _ _ _ _ _ ⟨rfl, rfl, rfl, rfl, r + 1, by omega, by omega, rfl, fz.trans ((Fg.a (by decide)).trans (Fg.i (by decide))), ?_, ?_, pu⟩ ?_
      · rw [gI_ne (by decide)]; exact z165
      · rw [gI_ne (by decide)]; exact z166
      · rw [nI_clamp (by omega), nI_clamp (by omega)]
        omega
theorem s_look148 {post : St → Prop} {R : Int32 → Int32 → St → Prop} {z : St} {a b l4 : Int32} {g : Nat} (hL : LM z) (hs : s < 3) (h117 : fI z 0 117 = nI s) (hQ : KqM z s Q) (hne : Q.2.2.1 ≠ []) (p : R b (nI (g + 1)) z) : j_Mod_lookAtAll_148 post R a (nI g) b l4 z := by
  obtain ⟨m1, m2, m3⟩ := stp_n hs hQ h117 hL
  have hp : 0 < Q.2.2.1.length := List.length_pos_iff.mpr hne
  unfold j_Mod_lookAtAll_148
  refine lp_Mod_lookAtAll_151 (fun b1 b2 b3 b4 b5 y => a = b1 ∧ nI g = b2 ∧ b = b3 ∧ y = z) (fun _ _ _ _ _ _ => 0) ?_ _ _ _ _ _ _ ⟨rfl, rfl, rfl, rfl⟩
  rintro R2 b1 b2 b3 b4 b5 y ⟨rfl, rfl, rfl, rfl⟩ ih2
  have nx : j_Mod_lookAtAll_200 post R a (nI g) b b4 b5 y := by
    unfold j_Mod_lookAtAll_200
    rw [nI_1]
    exact p
  unfold j_Mod_lookAtAll_151
  refine ⟨fun _ => nx, fun _ => ⟨m2, bn_f ?_ nx⟩⟩
  rw [m1]
  intro e
  have := (nI_eq (b := 0) (by omega) (by decide)).mp e
  omega
theorem s_lookAll1 {post : St → Prop} (H : RnM x F G K CK Pl) (hw : WfS F) (ok : OkO F G CK) (hk : KtO F G K CK) (wd : WdO F CK) (hl : CK.length = ncol F * G.length) (hs : s < 3) (h117 : fI x 0 117 = nI s) (hQ : KqM x s Q) (hW : QyW F Q) (hne : Q.2.2.1 ≠ []) (hF0 : FdM x []) (h165 : fI x 0 165 = 0) (h166 : fI x 0 166 = 0) (p : ∀ y, FrLk x y → fI y 0 165 = nI (skA F Q G CK G.length).1 → fI y 0 166 = nI (skA F Q G CK G.length).2 → FdM y ((List.range (smN G)).filter (hit F G CK Q)) → post y) : ∃ n : Nat, wl_Mod_lookAtAll_19 post n 0 0 x := by
  have hC := hw.2.1
  have h2000 := H.1.2.2.2.2.1
  have h500 := H.1.2.2.2.1
  have l64 : Q.2.2.2.length < 2 ^ 31 := by
    have := hQ.1.2.2.2.2.1
    omega
  have hp : 0 < Q.2.2.1.length := List.length_pos_iff.mpr hne
  refine lp_Mod_lookAtAll_19 (fun b1 b2 y => ∃ g, g ≤ G.length ∧ nI (smN (G.take g)) = b1 ∧ nI g = b2 ∧ FrLk x y ∧ fI y 0 165 = nI (skA F Q G CK g).1 ∧ fI y 0 166 = nI (skA F Q G CK g).2 ∧ FdM y ((List.range (smN (G.take g))).filter (hit F G CK Q))) (fun _ b2 _ => G.length - b2.toNatClampNeg) ?_ _ _ _ ⟨0, Nat.zero_le _, rfl, rfl, Fg.refl x, h165, h166, hF0⟩
  rintro R b1 b2 y ⟨g, hg, rfl, rfl, f, e165, e166, hfd⟩ ih
  have Hy := H.lk f
  have Qy := hQ.lk f
  have y117 : fI y 0 117 = nI s := (f.1 0 117 (fun z => by omega)).trans h117
  obtain ⟨n1, n2, n3⟩ := stp_n hs Qy y117 Hy.1.1
  unfold j_Mod_lookAtAll_19
  rw [Hy.2.1]
  by_cases c : g = G.length
  · subst c
    rw [List.take_length] at hfd
    exact br_t (by (first | omega | (simp (disch := omega) only [Int32.le_iff_toInt_le, Int32.lt_iff_toInt_lt, z_eq, z_in, nI_toInt, z_cl, z_m1, z_sg, z_255, Int32.reduceToInt] <;> omega) | (simp only [Int32.le_iff_toInt_le, Int32.lt_iff_toInt_lt, z_eq, z_in, z_add, z_sub, z_mul, z_neg, z_nI, z_cl, z_sg, z_255, z_lit, Int32.reduceToInt] <;> omega))) (p y f e165 e166 hfd)
  have hg : g < G.length := by omega
  have sg := smN_take hg
  have sG := smN_le (G := G) (g := g + 1)
  refine br_f (by (first | omega | (simp (disch := omega) only [Int32.le_iff_toInt_le, Int32.lt_iff_toInt_lt, z_eq, z_in, nI_toInt, z_cl, z_m1, z_sg, z_255, Int32.reduceToInt] <;> omega) | (simp only [Int32.le_iff_toInt_le, Int32.lt_iff_toInt_lt, z_eq, z_in, z_add, z_sub, z_mul, z_neg, z_nI, z_cl, z_sg, z_255, z_lit, Int32.reduceToInt] <;> omega))) ?_
  rw [show fN y 53 = 500 from Hy.1.1 53]
  refine ⟨vp_in_nI (by omega) (by decide), nm_r (e' := nI (smN (G.take g) + G.getD g 0)) (by rw [rA_nI (by omega), Hy.1.2.2.1 g hg, nI_add]) ?_⟩
  rw [n1]
  refine ⟨n2, br_f (by (first | omega | (simp (disch := omega) only [Int32.le_iff_toInt_le, Int32.lt_iff_toInt_lt, z_eq, z_in, nI_toInt, z_cl, z_m1, z_sg, z_255, Int32.reduceToInt] <;> omega) | (simp only [Int32.le_iff_toInt_le, Int32.lt_iff_toInt_lt, z_eq, z_in, z_add, z_sub, z_mul, z_neg, z_nI, z_cl, z_sg, z_255, z_lit, Int32.reduceToInt] <;> omega))) ?_⟩
  have flen : ((List.range (smN (G.take g))).filter (hit F G CK Q)).length ≤ smN (G.take g) := by
    have := List.length_filter_le (hit F G CK Q) (List.range (smN (G.take g)))
    rw [List.length_range] at this
    exact this
  have esp : (List.range (smN (G.take (g + 1)))).filter (hit F G CK Q) = (List.range (smN (G.take g))).filter (hit F G CK Q) ++ ((List.range (G.getD g 0)).map (fun i => smN (G.take g) + i)).filter (hit F G CK Q) := by
    rw [sg, List.range_add, List.filter_append]
  have fin : ∀ z, FrLk x z → fI z 0 165 = nI (skA F Q G CK (g + 1)).1 → fI z 0 166 = nI (skA F Q G CK (g + 1)).2 → FdM z ((List.range (smN (G.take (g + 1)))).filter (hit F G CK Q)) → ∀ l4, j_Mod_lookAtAll_148 post R (nI (smN (G.take g))) (nI g) (nI (smN (G.take g) + G.getD g 0)) l4 z := by
    intro z fz a1 a2 a3 l4
    refine s_look148 (H.lk fz).1.1 hs ((fz.1 0 117 (fun z => by omega)).trans h117) (hQ.lk fz) hne ?_
    rw [← sg]
    refine ih _ _ _ ⟨g + 1, hg, rfl, rfl, fz, a1, a2, a3⟩ ?_
    rw [nI_clamp (by omega), nI_clamp (by omega)]
    omega
  refine lp_Mod_lookAtAll_58 (fun b1 b2 b3 b4 b5 z => nI (smN (G.take g)) = b1 ∧ nI g = b2 ∧ nI (smN (G.take g) + G.getD g 0) = b3 ∧ 1 = b4 ∧ ∃ c, c ≤ ncol F ∧ nI c = b5 ∧ FrLk y z ∧ (∀ k, fI z 0 k = fI y 0 k) ∧ fA z 103 = fA y 103 ∧ ∀ f, AsC F Q f → ncol (F.take f) < c → TdM z (tyC F (ncol (F.take f))) Pl (ncol (F.take f)) (tlK F CK g (ncol (F.take f)))) (fun _ _ _ _ b5 _ => ncol F - b5.toNatClampNeg) ?_ _ _ _ _ _ _ ⟨rfl, rfl, rfl, rfl, 0, Nat.zero_le _, rfl, Fg.refl y, fun _ => rfl, rfl, fun f _ hf => absurd hf (Nat.not_lt_zero _)⟩
  rintro R2 b1 b2 b3 b4 b5 z ⟨rfl, rfl, rfl, rfl, c, hc, rfl, fz, zI, z103, zT⟩ ih2
  have Hz := Hy.lk fz
  have Qz := Qy.lk fz
  have z117 : fI z 0 117 = nI s := (zI 117).trans y117
  have z10 : rA z 10 1 = nI (ncol F) := by
    show fA z 10 1 = _
    exact Hz.1.2.1.2.1
  unfold j_Mod_lookAtAll_58
  rw [z10, show fN z 10 = 3 from Hz.1.1 10]
  refine ⟨vp_in_nI (by decide) (by decide), ?_⟩
  by_cases cc : c = ncol F
  · subst cc
    refine br_t (by (first | omega | (simp (disch := omega) only [Int32.le_iff_toInt_le, Int32.lt_iff_toInt_lt, z_eq, z_in, nI_toInt, z_cl, z_m1, z_sg, z_255, Int32.reduceToInt] <;> omega) | (simp only [Int32.le_iff_toInt_le, Int32.lt_iff_toInt_lt, z_eq, z_in, z_add, z_sub, z_mul, z_neg, z_nI, z_cl, z_sg, z_255, z_lit, Int32.reduceToInt] <;> omega))) ?_
    refine s_condC (τ := tlK F CK g) Hz.1 hw hs z117 Qz hW hne (fun f hf => ⟨zT f hf (col_ok hw hf.1).1, ?_⟩) (fun w fw can r hr => br_f hr ?_) (fun w fw can r hr => br_t hr ?_)
    · obtain ⟨hc', -⟩ := col_ok hw hf.1
      obtain ⟨-, -, o3, -⟩ := ok.at hl hg hc'
      exact List.length_pos_iff.mpr o3
    · have wI : ∀ k, fI w 0 k = fI y 0 k := fun k => (fw.1 0 k (fun q => q)).trans (zI k)
      have w103 : fA w 103 = fA z 103 := fw.2.2.2.1 103 (by show ¬ (103 : Nat) = 96; decide)
      have fxw := (f.trans fz).trans (FrLk.of fw)
      have hfw : FdM w ((List.range (smN (G.take g))).filter (hit F G CK Q)) := by
        refine ⟨(wI 160).trans hfd.1, fun i hi => ?_⟩
        rw [w103, z103]
        exact hfd.2 i hi
      unfold j_Mod_lookAtAll_106 j_Mod_lookAtAll_108
      refine bn_f (by decide) ?_
      obtain ⟨v1, v2, -⟩ := stp_n hs (hQ.lk fxw) ((wI 117).trans y117) (H.lk fxw).1.1
      refine ⟨v2, br_f ?_ ?_⟩
      · rw [v1]; (first | omega | (simp (disch := omega) only [Int32.le_iff_toInt_le, Int32.lt_iff_toInt_lt, z_eq, z_in, nI_toInt, z_cl, z_m1, z_sg, z_255, Int32.reduceToInt] <;> omega) | (simp only [Int32.le_iff_toInt_le, Int32.lt_iff_toInt_lt, z_eq, z_in, z_add, z_sub, z_mul, z_neg, z_nI, z_cl, z_sg, z_255, z_lit, Int32.reduceToInt] <;> omega))
      · refine s_lookAtGroup (H.lk fxw) hw ok wd hl hs ((wI 117).trans y117) (hQ.lk fxw) hW hne hg hfw flen ((wI 166).trans e166) (fun v fv v165 v166 hfv => ?_)
        refine fin v (fxw.trans fv) ?_ ?_ (by rw [esp]; exact hfv) _
        · rw [v165, wI, e165]
          conv => rhs; unfold skA
          rw [if_pos can]
        · rw [v166]
          conv => rhs; unfold skA
          rw [if_pos can]
    · have wI : ∀ k, fI w 0 k = fI y 0 k := fun k => (fw.1 0 k (fun q => q)).trans (zI k)
      have w103 : fA w 103 = fA z 103 := fw.2.2.2.1 103 (by show ¬ (103 : Nat) = 96; decide)
      have fxw := (f.trans fz).trans (FrLk.of fw)
      unfold j_Mod_lookAtAll_106 j_Mod_lookAtAll_108
      refine bn_t rfl (nm_r (e' := setI w 0 165 (nI ((skA F Q G CK g).1 + 1))) (by rw [wI, e165, nI_1]) ?_)
      refine fin _ (fxw.trans (Fg.i (by decide))) ?_ ?_ ?_ _
      · rw [gI_at]
        conv => rhs; unfold skA
        rw [if_neg can]
      · rw [gI_ne (by decide), wI, e166]
        conv => rhs; unfold skA
        rw [if_neg can]
      · have ee : ((List.range (G.getD g 0)).map (fun i => smN (G.take g) + i)).filter (hit F G CK Q) = [] := by
          rw [List.filter_eq_nil_iff]
          intro a ha
          obtain ⟨i, hi, rfl⟩ := List.mem_map.mp ha
          rw [hit_chunk hw hW l64 ok hl hg can (List.mem_range.mp hi)]
          exact Bool.false_ne_true
        rw [esp, ee, List.append_nil]
        refine ⟨?_, fun i hi => ?_⟩
        · rw [gI_ne (by decide)]
          exact (wI 160).trans hfd.1
        · show fA w 103 i = _
          rw [w103, z103]
          exact hfd.2 i hi
  · refine br_f (by (first | omega | (simp (disch := omega) only [Int32.le_iff_toInt_le, Int32.lt_iff_toInt_lt, z_eq, z_in, nI_toInt, z_cl, z_m1, z_sg, z_255, Int32.reduceToInt] <;> omega) | (simp only [Int32.le_iff_toInt_le, Int32.lt_iff_toInt_lt, z_eq, z_in, z_add, z_sub, z_mul, z_neg, z_nI, z_cl, z_sg, z_255, z_lit, Int32.reduceToInt] <;> omega))) ?_
    have cN : c < ncol F := by omega
    have nx : ∀ v, FrLk z v → (∀ k, fI v 0 k = fI z 0 k) → fA v 103 = fA z 103 → (∀ f, AsC F Q f → ncol (F.take f) < c + 1 → TdM v (tyC F (ncol (F.take f))) Pl (ncol (F.take f)) (tlK F CK g (ncol (F.take f)))) → j_Mod_lookAtAll_85 post R R2 (nI (smN (G.take g))) (nI g) (nI (smN (G.take g) + G.getD g 0)) 1 (nI c) v := by
      intro v fv vI v103 vT
      unfold j_Mod_lookAtAll_85
      rw [nI_1]
      refine ih2 _ _ _ _ _ _ ⟨rfl, rfl, rfl, rfl, c + 1, cN, rfl, fz.trans fv, fun k => (vI k).trans (zI k), v103.trans z103, vT⟩ ?_
      rw [nI_clamp (by omega), nI_clamp (by omega)]
      omega
    refine s_asks Hz.1.1 hw Hz.1.2.1 hs z117 Qz.1 hW.2.2.2.1 (by omega) ?_
    by_cases d : askB F Q.2.2.1 c = true
    · rw [if_pos d]
      refine br_f (by decide) ?_
      obtain ⟨f', hf', ef⟩ := ask_AsC hw hW d
      subst ef
      refine s_tellChunk Hz hw ok hk hl hg hf'.1 (fun v fv vI v103 vK vT => nx v fv vI v103 (fun f hf hc2 => ?_))
      by_cases q : ncol (F.take f) = ncol (F.take f')
      · rw [q]; exact vT
      · exact (zT f hf (by omega)).keep vK q
    · rw [if_neg d]
      refine br_t rfl ?_
      refine nx z (Fg.refl z) (fun _ => rfl) rfl (fun f hf hc2 => zT f hf ?_)
      rcases Nat.lt_or_ge (ncol (F.take f)) c with q | q
      · exact q
      · have : ncol (F.take f) = c := by omega
        rw [← this] at d
        exact absurd (hf.ask hw) d
end
