/-! the Opener reads levels, and counts the entries without a value -/
abbrev FrLv (r : Nat) (x y : St) : Prop := Fg (fun a k => a = 104 ∧ (k = 1 ∨ k = 2 ∨ k = 3)) no2 no2 (fun a => a = r) (fun a => a = 100) x y
section
variable {x y z : St} {T : Nat → Nat} {n st p b : Nat}
theorem FrSr.lv {r : Nat} (f : FrSr 104 x y) : FrLv r x y := f.mono (fun _ _ z => ⟨z.1, by omega⟩) (fun _ _ z => z) (fun _ _ z => z) (fun _ z => z.elim) (fun _ z => z.elim)
theorem FrSL.lv {r : Nat} (f : FrSL 104 100 x y) : FrLv r x y := f.mono (fun _ _ z => ⟨z.1, by omega⟩) (fun _ _ z => z) (fun _ _ z => z) (fun _ z => z.elim) (fun _ z => z)
theorem k_lev0 {post : St → Prop} {r : Nat} {m most : Int32} (q : post x) (h0 : ¬ fI x 104 3 = 0) : ∃ nn, wl_Opn_readLevels_56 post nn 96 r m most 0 x := ⟨1, by
  unfold wl_Opn_readLevels_56 j_Opn_readLevels_56
  exact ⟨fun _ => q, fun _ => ⟨fun _ => q, fun z => absurd z h0⟩⟩⟩
/-- the levels are laid -/
theorem k_levL {post : St → Prop} {r m most E : Nat} {L : List Nat} (S : Sr 104 x T n p st) (hr : r = 83 ∨ r = 84) (hE : fI x 97 4 = nI E) (hE2 : E ≤ 10000) (hm : m ≤ 1000) (hmost : most ≤ 100) (hL : L.length = m) (h100 : 0 < most → ∀ k, k < m → fL x 100 k = lN (L.getD k 0)) (hz : most = 0 → ∀ k, k < m → L.getD k 0 = 0) (hL2 : ∀ v, v ∈ L → v < 2 ^ 32)
    (pe : ∀ y, (∃ v, v ∈ L ∧ most < v) → FrLv r x y → FlC 104 y 9 → post y)
    (pk : ∀ y, (¬ ∃ v, v ∈ L ∧ most < v) → FrLv r x y → Sr 104 y T n p st → (∀ k, k < m → fA y r (E + k) = nI (L.getD k 0)) → (∀ i, i < E → fA y r i = fA x r i) → post y) : ∃ nn, wl_Opn_readLevels_56 post nn 96 r (nI m) (nI most) 0 x := by
  have lr : fN x r = 11001 := by rcases hr with rfl | rfl <;> exact S.1.1 _ (by decide)
  have r82 : ¬ 82 = r := by omega
  have L100 : fN x 100 = 2000 := S.1.1 100 (by decide)
  refine lp_Opn_readLevels_56 (fun a0 a1 a2 a3 a4 y => 96 = a0 ∧ r = a1 ∧ nI m = a2 ∧ nI most = a3 ∧ FrLv r x y ∧ fL y 100 = fL x 100 ∧ ∃ k, nI k = a4 ∧ k ≤ m ∧ ((FlC 104 y 9 ∧ ∃ v, v ∈ L ∧ most < v) ∨ Sr 104 y T n p st ∧ (∀ j, j < k → L.getD j 0 ≤ most) ∧ (∀ j, j < k → fA y r (E + j) = nI (L.getD j 0)) ∧ ∀ i, i < E → fA y r i = fA x r i)) (fun _ _ _ _ a4 _ => m - a4.toNatClampNeg) ?_ _ _ _ _ _ _ ⟨rfl, rfl, rfl, rfl, Fg.refl x, rfl, 0, rfl, Nat.zero_le _, Or.inr ⟨S, fun j hj => absurd hj (Nat.not_lt_zero _), fun j hj => absurd hj (Nat.not_lt_zero _), fun i _ => rfl⟩⟩
  rintro Q a0 a1 a2 a3 a4 y ⟨rfl, rfl, rfl, rfl, y1, y100, k, rfl, k1, y2⟩ ih
  have ly : fN y r = 11001 := (y1.len r).trans lr
  have ey : fI y 97 4 = nI E := (y1.ii (by decide)).trans hE
  unfold j_Opn_readLevels_56
  rw [show stC 96 2 = 104 from rfl, show stC 96 7 = 100 from rfl]
  rcases y2 with ⟨f1, f2⟩ | ⟨Sy, y3, y4, y5⟩
  · exact ⟨fun _ => pe y f2 y1 f1, fun _ => ⟨fun _ => pe y f2 y1 f1, fun w => absurd w f1.ne⟩⟩
  · by_cases ck : k < m
    · refine br_f (by (first | omega | (simp (disch := omega) only [Int32.le_iff_toInt_le, Int32.lt_iff_toInt_lt, z_eq, z_in, nI_toInt, z_cl, z_m1, z_sg, z_255, Int32.reduceToInt] <;> omega) | (simp only [Int32.le_iff_toInt_le, Int32.lt_iff_toInt_lt, z_eq, z_in, z_add, z_sub, z_mul, z_neg, z_nI, z_cl, z_sg, z_255, z_lit, Int32.reduceToInt] <;> omega))) (bn_t Sy.h0 ?_)
      obtain ⟨g, hg⟩ : ∃ g, g = L.getD k 0 := ⟨_, rfl⟩
      have gm : g ∈ L := by
        rw [hg, List.getD_eq_getElem?_getD, List.getElem?_eq_getElem (by omega)]
        exact List.getElem_mem _
      have g32 := hL2 g gm
      have go : j_Opn_readLevels_87 post Q 96 r (nI m) (nI most) (nI k) (lN g) y := by
        have set : ∀ z, FrLv r x z → fL z 100 = fL x 100 → ((FlC 104 z 9 ∧ ∃ v, v ∈ L ∧ most < v) ∨ g ≤ most ∧ y = z) → (vp_in ((fI z (stC 96 0) 4) + nI k) (fN z r) ∧ ∀ x2 : St, x2 = setA z r ((fI z (stC 96 0) 4) + nI k) (vp_nar .byte ((lN g : Int64).toInt32 : Int32).toInt8.toInt32) → Q 96 r (nI m) (nI most) (nI k + 1) x2) := fun z z1 z2 z3 => by
          rw [show stC 96 0 = 97 from rfl, (z1.ii (by decide)).trans hE, nI_add, z1.len, lr, nI_1]
          refine ⟨vp_in_nI (by omega) (by decide), nm_e (ih _ _ _ _ _ _ ⟨rfl, rfl, rfl, rfl, Fg.trans z1 (Fg.a rfl), z2, k + 1, rfl, ck, ?_⟩ (by rw [nI_clamp (by omega), nI_clamp (by omega)]; omega))⟩
          rcases z3 with ⟨a, b⟩ | ⟨a, rfl⟩
          · exact Or.inl ⟨a, b⟩
          · refine Or.inr ⟨Sy.a (by omega), fun j hj => ?_, fun j hj => ?_, fun i hi => ?_⟩
            · by_cases e : j = k
              · rw [e, ← hg]; exact a
              · exact y3 j (by omega)
            · rw [gA_at, nI_clamp (by omega)]
              by_cases e : j = k
              · rw [e, upd_at, lN_i, nar_b (by omega), hg]
              · rw [upd_ne (by omega)]; exact y4 j (by omega)
            · rw [gA_at, nI_clamp (by omega), upd_ne (by omega)]; exact y5 i hi
        unfold j_Opn_readLevels_87 j_Opn_readLevels_106
        rw [show (nI most).toInt64 = lN most from nI_l (by omega), lg_cmp_gt, lN_lt2 (by omega) (by omega)]
        by_cases cg : most < g
        · exact br_t cg (r_ck0 9 Sy (by decide) (by decide) (fun z z1 z2 => set z (Fg.trans y1 (FrSr.lv z1)) ((z1.ll id).trans y100) (Or.inl ⟨z2, g, gm, cg⟩)))
        · exact br_f cg (k_ck1 (set y y1 y100 (Or.inr ⟨by omega, rfl⟩)))
      by_cases c0 : most = 0
      · have e0 : g = 0 := by rw [hg]; exact hz c0 k ck
        rw [e0] at go
        exact br_t (by rw [c0]; decide) go
      · refine br_f (by (first | omega | (simp (disch := omega) only [Int32.le_iff_toInt_le, Int32.lt_iff_toInt_lt, z_eq, z_in, nI_toInt, z_cl, z_m1, z_sg, z_255, Int32.reduceToInt] <;> omega) | (simp only [Int32.le_iff_toInt_le, Int32.lt_iff_toInt_lt, z_eq, z_in, z_add, z_sub, z_mul, z_neg, z_nI, z_cl, z_sg, z_255, z_lit, Int32.reduceToInt] <;> omega))) ⟨by rw [y1.len, L100]; exact vp_in_nI (by omega) (by decide), ?_⟩
        rw [rL_nI (by omega), y100, h100 (by omega) k ck, ← hg]
        exact go
    · have e : k = m := by omega
      subst e
      refine br_t (by (first | omega | (simp (disch := omega) only [Int32.le_iff_toInt_le, Int32.lt_iff_toInt_lt, z_eq, z_in, nI_toInt, z_cl, z_m1, z_sg, z_255, Int32.reduceToInt] <;> omega) | (simp only [Int32.le_iff_toInt_le, Int32.lt_iff_toInt_lt, z_eq, z_in, z_add, z_sub, z_mul, z_neg, z_nI, z_cl, z_sg, z_255, z_lit, Int32.reduceToInt] <;> omega))) (pk y (fun z => ?_) y1 Sy y4 y5)
      obtain ⟨v, v1, v2⟩ := z
      obtain ⟨j, hj, rfl⟩ := List.getElem_of_mem v1
      have := y3 j (by omega)
      rw [List.getD_eq_getElem?_getD, List.getElem?_eq_getElem hj] at this
      have : L[j] ≤ most := this
      omega
theorem k_lvR0 {post : St → Prop} {r : Nat} {m most : Int32} (h0 : ¬ fI x 104 3 = 0) (q : post x) : wp_Opn_readLevels post 96 r m most x := by
  unfold wp_Opn_readLevels j_Opn_readLevels_53
  refine ⟨fun _ => k_lev0 q h0, fun _ => k_vrd0 h0 (k_narrow0 h0 (c_widthOf (k_rns0 h0 (k_end0 h0 (nm_e ?_)))))⟩
  rw [show stC 96 2 = 104 from rfl, setI_self rfl]
  exact k_lev0 q h0
theorem k_lvR {post : St → Prop} {r m most E : Nat} (S : Sr 104 x T n p st) (hr : r = 83 ∨ r = 84) (hE : fI x 97 4 = nI E) (hE2 : E ≤ 10000) (hm : m ≤ 1000) (hmost : most ≤ 100)
    (pe : ∀ e y, lvR T most m st p = .error e → FrLv r x y → FlC 104 y e → post y)
    (pk : ∀ L q y, lvR T most m st p = .ok (L, q) → FrLv r x y → Sr 104 y T n q st → L.length = m → (∀ v, v ∈ L → v ≤ most) → (∀ k, k < m → fA y r (E + k) = nI (L.getD k 0)) → (∀ i, i < E → fA y r i = fA x r i) → post y) : wp_Opn_readLevels post 96 r (nI m) (nI most) x := by
  have hS := S.le
  have L100 : fN x 100 = 2000 := S.1.1 100 (by decide)
  unfold wp_Opn_readLevels j_Opn_readLevels_53
  by_cases c0 : most = 0
  · have er : lvR T most m st p = .ok (List.replicate m 0, p) := if_pos c0
    refine br_t (by rw [c0]; decide) (k_levL (L := List.replicate m 0) S hr hE hE2 hm hmost List.length_replicate (fun z => by omega) (fun _ k hk => getD_rep hk) (fun v hv => by rw [(List.mem_replicate.mp hv).2]; decide) (fun y c => ?_) (fun y c y1 y2 y3 y4 => pk _ _ y er y1 y2 List.length_replicate (fun v hv => by rw [(List.mem_replicate.mp hv).2]; omega) y3 y4))
    obtain ⟨v, v1, v2⟩ := c
    rw [(List.mem_replicate.mp v1).2] at v2
    omega
  · refine br_f (by (first | omega | (simp (disch := omega) only [Int32.le_iff_toInt_le, Int32.lt_iff_toInt_lt, z_eq, z_in, nI_toInt, z_cl, z_m1, z_sg, z_255, Int32.reduceToInt] <;> omega) | (simp only [Int32.le_iff_toInt_le, Int32.lt_iff_toInt_lt, z_eq, z_in, z_add, z_sub, z_mul, z_neg, z_nI, z_cl, z_sg, z_255, z_lit, Int32.reduceToInt] <;> omega))) ?_
    rw [show stC 96 2 = 104 from rfl, show stC 96 7 = 100 from rfl]
    have fall : ∀ e y l, lvR T most m st p = .error e → FrLv r x y → FlC 104 y e → ∃ nn, wl_Opn_readLevels_56 post nn 96 r (nI m) (nI most) 0 (setI y 104 2 l) := fun e y l h1 h2 h3 => by
      have fl : FlC 104 (setI y 104 2 l) e := ⟨(gI_ne (by decide)).trans h3.1, h3.2⟩
      exact k_lev0 (pe e _ h1 (Fg.trans h2 (Fg.i ⟨rfl, by decide⟩)) fl) fl.ne
    refine r_vrd so4 S (fun e y y1 y2 y3 => ?_) (fun v q y y1 y2 Sy v1 v2 => ?_)
    · have er : lvR T most m st p = .error e := by unfold lvR; rw [if_neg c0, y1]
      exact k_narrow0 y3.ne (c_widthOf (k_rns0 y3.ne (k_end0 y3.ne (nm_e (fall e y _ er (FrSr.lv y2) y3)))))
    · have hSy := Sy.le
      have er : lvR T most m st p = (if st < q + v then .error 1 else match rns T m (bl most) (q + v) q with
        | .error e => .error e
        | .ok (L, q2) => if q2 < q + v then .error 6 else if ∃ v, v ∈ L ∧ most < v then .error 9 else .ok (L, q2)) := by unfold lvR; rw [if_neg c0, y1]; rfl
      refine k_narrow v1 Sy.h0 Sy.hp Sy.hs hSy.1 (by omega) (fun c => ?_) (fun c => ?_)
      · have fl : FlC 104 (setI y 104 3 1) 1 := ⟨gI_at, by decide, by decide⟩
        rw [if_pos c] at er
        exact c_widthOf (k_rns0 fl.ne (k_end0 fl.ne (nm_e (fall 1 _ _ er (Fg.trans (FrSr.lv y2) (Fg.i ⟨rfl, by decide⟩)) fl))))
      · rw [if_neg (by omega)] at er
        have fz : FrLv r x (setI y 104 2 (nI (q + v))) := Fg.trans (FrSr.lv y2) (Fg.i ⟨rfl, by decide⟩)
        have r82 : ¬ 82 = r := by omega
        have Sz : Sr 104 (setI y 104 2 (nI (q + v))) T n q (q + v) := ⟨Fg.fic fz r82 S.1, (gI_ne (by decide)).trans Sy.h0, (gI_ne (by decide)).trans Sy.hp, gI_at, by omega, by omega⟩
        refine c_widthOf ?_
        rw [show uL (nI most).toInt64 = most from by rw [nI_l (by omega), uL_lN (by omega)]]
        have bw : bl most ≤ 32 := bl_le.mpr (show most < 2 ^ 32 by omega)
        refine k_rns so4 Sz bw (by rw [fz.len, L100]; omega) (by rw [fz.len, L100]; decide) (fun e z z1 z2 z3 => ?_) (fun L q2 z z1 z2 Sz2 z3 => ?_)
        · rw [z1] at er
          exact k_end0 z3.ne (nm_e (fall e z _ er (Fg.trans fz (FrSL.lv z2)) z3))
        · rw [z1] at er
          simp only at er
          obtain ⟨ll, lt, -, -⟩ := rns_ok S.t z1 Sz.le.1
          refine r_end Sz2 (fun u c6 u1 u2 => nm_e (fall 6 u _ (by rw [er, if_pos c6]) (Fg.trans (Fg.trans fz (FrSL.lv z2)) (FrSr.lv u1)) u2)) (fun c6 => nm_e ?_)
          rw [if_neg (by omega)] at er
          have fu : FrLv r x (setI z 104 2 (nI st)) := Fg.trans (Fg.trans fz (FrSL.lv z2)) (Fg.i ⟨rfl, by decide⟩)
          have hz2 := Sz2.le
          have Su : Sr 104 (setI z 104 2 (nI st)) T n q2 st := ⟨Fg.fic fu r82 S.1, (gI_ne (by decide)).trans Sz2.h0, (gI_ne (by decide)).trans Sz2.hp, gI_at, by omega, hS.2.1⟩
          refine k_levL (L := L) Su hr ((fu.ii (by decide)).trans hE) hE2 hm hmost ll (fun _ => z3) (fun z => absurd z c0) (fun v hv => ?_) (fun w c w1 w2 => pe 9 w (by rw [er, if_pos c]) (Fg.trans fu w1) w2) (fun w c w1 w2 w3 w4 => pk L q2 w (by rw [er, if_neg c]) (Fg.trans fu w1) w2 ll (fun v hv => Nat.not_lt.mp (fun z => c ⟨v, hv, z⟩)) w3 (fun i hi => (w4 i hi).trans ?_))
          · have := lt v hv
            have : 2 ^ bl most ≤ 2 ^ 32 := Nat.pow_le_pow_right (by decide) bw
            omega
          · show fA z r i = _
            rw [z2.aa id]
            show fA y r i = _
            rw [y2.aa id]
theorem k_nul0 {post : Int32 → St → Prop} {m E : Nat} {most : Int32} (hL : LC x) (hE : fI x 97 4 = nI E) (hE2 : E ≤ 10000) (hm : m ≤ 1000) (q : ∀ v, post v x) : wp_Opn_countNulls post 96 (nI m) most x := by
  unfold wp_Opn_countNulls
  refine lp_Opn_countNulls_5 (fun a0 a1 a2 a3 a4 y => 96 = a0 ∧ nI m = a1 ∧ x = y ∧ ∃ k, nI k = a4 ∧ k ≤ m) (fun _ _ _ _ a4 _ => m - a4.toNatClampNeg) ?_ _ _ _ _ _ _ ⟨rfl, rfl, rfl, 0, rfl, Nat.zero_le _⟩
  rintro Q a0 a1 a2 a3 a4 y ⟨rfl, rfl, rfl, k, rfl, k1⟩ ih
  unfold j_Opn_countNulls_5 j_Opn_countNulls_39
  rw [show stC (stC 96 0) 8 = 84 from rfl, show stC 96 0 = 97 from rfl, hE, nI_add, show fN x 84 = 11001 from hL 84 (by decide)]
  by_cases ck : k < m
  · have nx : ∀ v, Q 96 (nI m) a2 v (nI k + 1) x := fun v => by
      rw [nI_1]
      exact ih _ _ _ _ _ _ ⟨rfl, rfl, rfl, k + 1, rfl, ck⟩ (by rw [nI_clamp (by omega), nI_clamp (by omega)]; omega)
    exact br_f (by (first | omega | (simp (disch := omega) only [Int32.le_iff_toInt_le, Int32.lt_iff_toInt_lt, z_eq, z_in, nI_toInt, z_cl, z_m1, z_sg, z_255, Int32.reduceToInt] <;> omega) | (simp only [Int32.le_iff_toInt_le, Int32.lt_iff_toInt_lt, z_eq, z_in, z_add, z_sub, z_mul, z_neg, z_nI, z_cl, z_sg, z_255, z_lit, Int32.reduceToInt] <;> omega))) ⟨vp_in_nI (by omega) (by decide), ⟨fun _ => nm_e (nx _), fun _ => nm_e (nx _)⟩⟩
  · exact br_t (by (first | omega | (simp (disch := omega) only [Int32.le_iff_toInt_le, Int32.lt_iff_toInt_lt, z_eq, z_in, nI_toInt, z_cl, z_m1, z_sg, z_255, Int32.reduceToInt] <;> omega) | (simp only [Int32.le_iff_toInt_le, Int32.lt_iff_toInt_lt, z_eq, z_in, z_add, z_sub, z_mul, z_neg, z_nI, z_cl, z_sg, z_255, z_lit, Int32.reduceToInt] <;> omega))) (q _)
theorem k_nul {post : Int32 → St → Prop} {m E most : Nat} {D : List Nat} (hL : LC x) (hE : fI x 97 4 = nI E) (hE2 : E ≤ 10000) (hm : m ≤ 1000) (hmost : most ≤ 100) (hD : D.length = m) (hd : ∀ k, k < m → fA x 84 (E + k) = nI (D.getD k 0)) (hle : ∀ v, v ∈ D → v ≤ most) (q : post (nI (m - hvN most D)) x) : wp_Opn_countNulls post 96 (nI m) (nI most) x := by
  unfold wp_Opn_countNulls
  refine lp_Opn_countNulls_5 (fun a0 a1 a2 a3 a4 y => 96 = a0 ∧ nI m = a1 ∧ nI most = a2 ∧ x = y ∧ ∃ k, nI k = a4 ∧ k ≤ m ∧ nI (k - hvN most (D.take k)) = a3) (fun _ _ _ _ a4 _ => m - a4.toNatClampNeg) ?_ _ _ _ _ _ _ ⟨rfl, rfl, rfl, rfl, 0, rfl, Nat.zero_le _, rfl⟩
  rintro Q a0 a1 a2 a3 a4 y ⟨rfl, rfl, rfl, rfl, k, rfl, k1, rfl⟩ ih
  unfold j_Opn_countNulls_5 j_Opn_countNulls_39
  rw [show stC (stC 96 0) 8 = 84 from rfl, show stC 96 0 = 97 from rfl, hE, nI_add, show fN x 84 = 11001 from hL 84 (by decide)]
  by_cases ck : k < m
  · have tk := hvN_take (md := most) (D := D) (k := k) (by omega)
    have le := hv_le (md := most) (D.take k)
    rw [List.length_take] at le
    have dm : D.getD k 0 ∈ D := by
      rw [List.getD_eq_getElem?_getD, List.getElem?_eq_getElem (by omega)]
      exact List.getElem_mem _
    have dl := hle _ dm
    have nx : ∀ v, v = nI (k + 1 - hvN most (D.take (k + 1))) → Q 96 (nI m) (nI most) v (nI k + 1) x := fun v hv => by
      rw [nI_1, hv]
      exact ih _ _ _ _ _ _ ⟨rfl, rfl, rfl, rfl, k + 1, rfl, ck, rfl⟩ (by rw [nI_clamp (by omega), nI_clamp (by omega)]; omega)
    refine br_f (by (first | omega | (simp (disch := omega) only [Int32.le_iff_toInt_le, Int32.lt_iff_toInt_lt, z_eq, z_in, nI_toInt, z_cl, z_m1, z_sg, z_255, Int32.reduceToInt] <;> omega) | (simp only [Int32.le_iff_toInt_le, Int32.lt_iff_toInt_lt, z_eq, z_in, z_add, z_sub, z_mul, z_neg, z_nI, z_cl, z_sg, z_255, z_lit, Int32.reduceToInt] <;> omega))) ⟨vp_in_nI (by omega) (by decide), ?_⟩
    rw [rA_nI (by omega), hd k ck]
    by_cases c : D.getD k 0 = most
    · rw [if_pos c] at tk
      refine br_t (by (first | omega | (simp (disch := omega) only [Int32.le_iff_toInt_le, Int32.lt_iff_toInt_lt, z_eq, z_in, nI_toInt, z_cl, z_m1, z_sg, z_255, Int32.reduceToInt] <;> omega) | (simp only [Int32.le_iff_toInt_le, Int32.lt_iff_toInt_lt, z_eq, z_in, z_add, z_sub, z_mul, z_neg, z_nI, z_cl, z_sg, z_255, z_lit, Int32.reduceToInt] <;> omega))) (nm_e (nx _ ?_))
      rw [Int32.add_zero, tk]
      congr 1
      omega
    · rw [if_neg c] at tk
      refine br_f (by (first | omega | (simp (disch := omega) only [Int32.le_iff_toInt_le, Int32.lt_iff_toInt_lt, z_eq, z_in, nI_toInt, z_cl, z_m1, z_sg, z_255, Int32.reduceToInt] <;> omega) | (simp only [Int32.le_iff_toInt_le, Int32.lt_iff_toInt_lt, z_eq, z_in, z_add, z_sub, z_mul, z_neg, z_nI, z_cl, z_sg, z_255, z_lit, Int32.reduceToInt] <;> omega))) (nm_e (nx _ ?_))
      rw [nI_1, tk]
      congr 1
      omega
  · have e : k = m := by omega
    subst e
    rw [show D.take k = D from by rw [← hD, List.take_length]]
    exact br_t (by (first | omega | (simp (disch := omega) only [Int32.le_iff_toInt_le, Int32.lt_iff_toInt_lt, z_eq, z_in, nI_toInt, z_cl, z_m1, z_sg, z_255, Int32.reduceToInt] <;> omega) | (simp only [Int32.le_iff_toInt_le, Int32.lt_iff_toInt_lt, z_eq, z_in, z_add, z_sub, z_mul, z_neg, z_nI, z_cl, z_sg, z_255, z_lit, Int32.reduceToInt] <;> omega))) q
end
