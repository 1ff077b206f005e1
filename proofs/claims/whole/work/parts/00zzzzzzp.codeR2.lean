/-! a CODE, class: all of it -/
abbrev FrCd (o r : Nat) (x y : St) : Prop := Fg (fun a k => a = o ∧ (k = 1 ∨ k = 2 ∨ k = 3)) no2 no2 (fun a => a = o + 1) (fun a => a = r) x y
theorem lN_inj {a b : Nat} (ha : a < 2 ^ 64) (hb : b < 2 ^ 64) (h : lN a = lN b) : a = b := by
  have := congrArg uL h
  rwa [uL_lN ha, uL_lN hb] at this
section
variable {x : St} {T : Nat → Nat} {n st p o : Nat}
theorem FrSB.cd {r : Nat} {y : St} (f : FrSB o r x y) : FrCd o r x y := f.mono (fun _ _ z => ⟨z.1, by omega⟩) (fun _ _ z => z) (fun _ _ z => z) (fun _ z => z) (fun _ z => z)
theorem FrSr.cd {r : Nat} {y : St} (f : FrSr o x y) : FrCd o r x y := FrSB.cd f.b
theorem k_within {post : Int32 → St → Prop} {v m : Nat} (hv : v < 2 ^ 64) (hm : m < 2 ^ 62) (a : v ≤ m → post 1 x) (b : m < v → post 0 x) : wp_V_within post (lN v) (lN m) x := by
  unfold wp_V_within j_V_within_16
  rw [lg_cmp_lt, lN_neg2 hv, lg_cmp_gt]
  by_cases c : v ≤ m
  · exact ⟨fun z => by omega, fun _ => ⟨fun z => by rw [lN_lt2 (by omega) (by omega)] at z; omega, fun _ => a c⟩⟩
  · refine ⟨fun _ => b (by omega), fun z => ⟨fun _ => b (by omega), fun w => absurd ?_ w⟩⟩
    rw [lN_lt2 (by omega) (by omega)]
    omega
theorem k_code20 {post : St → Prop} {r : Nat} {due told l4 : Int32} (h0 : ¬ fI x o 3 = 0) (q : post (setI x o 2 l4)) : j_Src_readCode_20 post o r due told l4 x := by
  have h2 : ¬ fI (setI x o 2 l4) o 3 = 0 := by rw [gI_ne (by decide)]; exact h0
  have J : ∀ l5 l7, j_Src_readCode_113 post o r due told l4 l5 l7 x := fun l5 l7 => by
    unfold j_Src_readCode_113 j_Src_readCode_137
    exact k_end0 h0 (nm_e ⟨fun _ => k_ckf h2 q, fun _ => k_ckf h2 q⟩)
  have K : ∀ l5, j_Src_readCode_69 post o r due told l4 l5 x := fun l5 => by
    unfold j_Src_readCode_69
    refine ⟨1, ?_⟩
    unfold wl_Src_readCode_72 j_Src_readCode_72
    exact ⟨fun _ => J _ _, fun z => absurd z h0⟩
  unfold j_Src_readCode_20
  refine k_vrd0 h0 ?_
  unfold wp_V_within j_V_within_16
  have M : ∀ b, wp_Src_check (fun (x12 : St) => ((¬ (fI x12 o 3) = 0 → j_Src_readCode_69 post o r due told l4 0 x12) ∧ ((fI x12 o 3) = 0 → (((lg_cmp 0 0) ≤ 0 → j_Src_readCode_69 post o r due told l4 0 x12) ∧ (¬ (lg_cmp 0 0) ≤ 0 → wp_Src_readVarint (fun (r16 : Int64) (x15 : St) => wp_V_unzigzag (fun (r18 : Int64) (x17 : St) => (vp_in 0 (fN x17 r) ∧ ∀ x19 : St, x19 = setL x17 r 0 r18 → j_Src_readCode_69 post o r due told l4 0 x19)) r16 x15) o x12))))) o b 4 x := fun b => k_ckf h0 ⟨fun _ => K _, fun z => absurd z h0⟩
  exact ⟨fun _ => M 0, fun _ => ⟨fun _ => M 0, fun _ => M 1⟩⟩
theorem k_code0 {post : St → Prop} {r : Nat} {due told : Int32} (h0 : ¬ fI x o 3 = 0) (q : post x) : wp_Src_readCode post o r due told x := by
  have q2 : post (setI x o 2 (fI x o 2)) := by rw [setI_self rfl]; exact q
  unfold wp_Src_readCode
  refine nm_e ⟨fun _ => k_code20 h0 q2, fun _ => k_vrd0 h0 (k_narrow0 h0 (k_code20 h0 q2))⟩
theorem k_lgs {post : St → Prop} {r due st0 : Nat} {told : Int32} (ho : SrO o) (S : Sr o x T n p st) (hd : due ≤ 2000) (hr : fN x r = 2000) (h0 : st0 ≤ n) (hst : st ≤ st0)
    (pe : ∀ e y, lgs T due st p = .error e → FrCd o r x y → FlC o y e → post y)
    (pk : ∀ L y, lgs T due st p = .ok (L, st) → FrCd o r x y → Sr o y T n st st0 → (∀ j, j < due → fL y r j = L.getD j 0) → post y) : j_Src_readCode_20 post o r (nI due) told (nI st0) x := by
  have hS := S.le
  have fall : ∀ (z : St) (e : Nat), FrCd o r x z → FlC o z e → lgs T due st p = .error e → post (setI z o 2 (nI st0)) := fun z e z1 z2 z3 => pe e _ z3 (Fg.trans z1 (Fg.i ⟨rfl, by decide⟩)) ⟨(gI_ne (by decide)).trans z2.1, z2.2⟩
  have f113 : ∀ (z : St) (e : Nat) l5 l7, FrCd o r x z → FlC o z e → lgs T due st p = .error e → j_Src_readCode_113 post o r (nI due) told (nI st0) l5 l7 z := fun z e l5 l7 z1 z2 z3 => by
    have fl : FlC o (setI z o 2 (nI st0)) e := ⟨(gI_ne (by decide)).trans z2.1, z2.2⟩
    unfold j_Src_readCode_113 j_Src_readCode_137
    exact k_end0 z2.ne (nm_e ⟨fun _ => k_ckf fl.ne (fall z e z1 z2 z3), fun _ => k_ckf fl.ne (fall z e z1 z2 z3)⟩)
  have f69 : ∀ (z : St) (e : Nat) l5, FrCd o r x z → FlC o z e → lgs T due st p = .error e → j_Src_readCode_69 post o r (nI due) told (nI st0) l5 z := fun z e l5 z1 z2 z3 => by
    unfold j_Src_readCode_69
    refine ⟨1, ?_⟩
    unfold wl_Src_readCode_72 j_Src_readCode_72
    exact ⟨fun _ => f113 z e _ _ z1 z2 z3, fun w => absurd w z2.ne⟩
  have n2 : ∀ y, FrCd o r x y → ((if (nI (fN y r)) < 2000 then (nI (fN y r)) else 2000) : Int32).toInt64 = lN 2000 := fun y y1 => by
    rw [y1.len r, hr]
    rfl
  unfold j_Src_readCode_20
  refine r_vrd ho S (fun e y y1 y2 y3 => ?_) (fun m q y y1 y2 Sy v1 v2 => ?_)
  · have er : lgs T due st p = .error e := by unfold lgs; rw [y1]
    rw [n2 y (FrSr.cd y2), show (0 : Int64) = lN 0 from rfl]
    refine k_within (by decide) (by decide) (fun _ => k_ck1 ⟨fun _ => f69 y e _ (FrSr.cd y2) y3 er, fun z => absurd z y3.ne⟩) (fun z => absurd z (by decide))
  · rw [n2 y (FrSr.cd y2)]
    refine k_within v1 (by decide) (fun c => ?_) (fun c => ?_)
    · have el : lgs T due st p = (match (if m = 0 then (.ok ([], q) : Rd (List Int64)) else match vrd T st q with
          | .error e => .error e
          | .ok (z, q1) => bksF T st m m 0 [uz z] q1) with
        | .error e => .error e
        | .ok (L, q2) => if q2 < st then .error 6 else if m ≠ due then .error 4 else .ok (L, q2)) := by
        unfold lgs; rw [y1]; simp only; rw [if_neg (by omega)]
        cases (if m = 0 then (.ok ([], q) : Rd (List Int64)) else match vrd T st q with
          | .error e => .error e
          | .ok (z, q1) => bksF T st m m 0 [uz z] q1) <;> rfl
      -- the end
      have fin : ∀ (z : St) (l7 : Int32) (L : List Int64) (q2 : Nat), FrCd o r x z → (lgs T due st p = if q2 < st then .error 6 else if m ≠ due then .error 4 else .ok (L, q2)) → Sr o z T n q2 st → L.length = m → (∀ j, j < L.length → fL z r j = L.getD j 0) → j_Src_readCode_113 post o r (nI due) told (nI st0) (lN m) l7 z := fun z l7 L q2 z1 z2 z3 z4 z5 => by
        have hz := z3.le
        unfold j_Src_readCode_113 j_Src_readCode_137
        refine r_end z3 (fun u c6 u1 u2 => ?_) (fun c6 => ?_)
        · rw [if_pos c6] at z2
          have fl : FlC o (setI u o 2 (nI st0)) 6 := ⟨(gI_ne (by decide)).trans u2.1, u2.2⟩
          have := fall u 6 (Fg.trans z1 (FrSr.cd u1)) u2 z2
          exact nm_e ⟨fun _ => k_ckf fl.ne this, fun _ => k_ckf fl.ne this⟩
        · rw [if_neg (by omega)] at z2
          refine nm_e ?_
          have fz : FrCd o r x (setI z o 2 (nI st0)) := Fg.trans z1 (Fg.i ⟨rfl, by decide⟩)
          have Sz : Sr o (setI z o 2 (nI st0)) T n st st0 := ⟨Fg.fic fz ho.n82 S.1, (gI_ne (by decide)).trans z3.h0, by rw [gI_ne (by decide), z3.hp, c6], gI_at, hst, h0⟩
          rw [show (nI due).toInt64 = lN due from nI_l (by omega), lg_cmp_eq]
          by_cases cd : m = due
          · rw [if_neg (by omega), c6] at z2
            refine bn_t (by rw [cd]) (k_ck1 (pk L _ z2 fz Sz (fun j hj => ?_)))
            exact z5 j (by omega)
          · rw [if_pos cd] at z2
            refine bn_f (fun w => cd (lN_inj (by omega) (by omega) w)) (r_ck0 4 Sz (by decide) (by decide) (fun u u1 u2 => pe 4 u z2 (Fg.trans fz (FrSr.cd u1)) u2))
      refine k_ck1 (bn_t Sy.h0 ?_)
      by_cases c0 : m = 0
      · rw [c0, show (lN 0 : Int64) = 0 from rfl]
        refine br_t ((lg_cmp_le _ _).mpr (by decide)) ?_
        rw [if_pos c0] at el
        unfold j_Src_readCode_69
        refine ⟨1, ?_⟩
        unfold wl_Src_readCode_72 j_Src_readCode_72
        refine bn_t Sy.h0 (br_t ((lg_cmp_ge _ _).mpr (by decide)) ?_)
        have := fin y 1 [] q (FrSr.cd y2) el Sy c0.symm (fun j hj => absurd hj (Nat.not_lt_zero _))
        rw [c0] at this
        exact this
      · refine br_f (fun w => c0 ?_) ?_
        · have := (lg_cmp_le _ _).mp w
          rw [show (0 : Int64) = lN 0 from rfl, lN_le2 (by omega) (by decide)] at this
          omega
        rw [if_neg c0] at el
        refine r_vrd ho Sy (fun e z z1 z2 z3 => ?_) (fun v q1 z z1 z2 Sz w1 w2 => ?_)
        · refine k_uz (v := 0) (by decide) ⟨?_, nm_e (f69 _ e _ (Fg.trans (Fg.trans (FrSr.cd y2) (FrSr.cd z2)) (Fg.l rfl)) z3 (by rw [el, z1]))⟩
          rw [z2.len r, y2.len r, hr]
          exact vp_in_nI (n := 0) (by decide) (by decide)
        · refine k_uz w1 ⟨?_, nm_e ?_⟩
          · rw [z2.len r, y2.len r, hr]
            exact vp_in_nI (n := 0) (by decide) (by decide)
          rw [z1] at el
          simp only at el
          have fz : FrCd o r x (setL z r 0 (uz v)) := Fg.trans (Fg.trans (FrSr.cd y2) (FrSr.cd z2)) (Fg.l rfl)
          have Sz2 : Sr o (setL z r 0 (uz v)) T n q1 st := Sz.cg (Fg.l (L := fun a => a = r) (I := no2) (J := no2) (R := no2) (A := no1) rfl) id id id id
          unfold j_Src_readCode_69
          refine lp_Src_readCode_72 (fun a0 a1 a2 a3 a4 a5 a6 u => o = a0 ∧ r = a1 ∧ nI due = a2 ∧ told = a3 ∧ nI st0 = a4 ∧ lN m = a5 ∧ FrCd o r x u ∧ ∃ first, nI (first + 1) = a6 ∧ first ≤ 2064 ∧ ((∃ e, FlC o u e ∧ lgs T due st p = .error e) ∨ ∃ ac pp, Sr o u T n pp st ∧ ac.length = 1 + min first (m - 1) ∧ (∀ j, j < ac.length → fL u r j = ac.getD j 0) ∧ bksF T st m m 0 [uz v] q1 = bksF T st m m first ac pp)) (fun _ _ _ _ _ _ a6 _ => 4000 - a6.toNatClampNeg) ?_ _ _ _ _ _ _ _ _ ⟨rfl, rfl, rfl, rfl, rfl, rfl, fz, 0, rfl, by decide, Or.inr ⟨[uz v], q1, Sz2, by rw [Nat.zero_min]; rfl, fun j hj => ?_, rfl⟩⟩
          · rintro Q a0 a1 a2 a3 a4 a5 a6 u ⟨rfl, rfl, rfl, rfl, rfl, rfl, u1, first, rfl, k1, u2⟩ ih
            unfold j_Src_readCode_72
            rcases u2 with ⟨e, u3, u4⟩ | ⟨ac, pp, Su, u3, u4, u5⟩
            · exact ⟨fun _ => f113 u e _ _ u1 u3 u4, fun w => absurd w u3.ne⟩
            · refine bn_t Su.h0 ?_
              obtain ⟨d, hd⟩ : ∃ d, m = d + 1 := ⟨m - 1, by omega⟩
              have ub : bksF T st m m first ac pp = (if m - 1 ≤ first then .ok (ac, pp) else match blkR T st first (min (first + 64) (m - 1)) ac pp with
                  | .error e => .error e
                  | .ok (acc', q) => bksF T st m d (first + 64) acc' q) := by
                show bksF T st m m first ac pp = _
                conv => lhs; rw [show bksF T st m m first ac pp = bksF T st m (d + 1) first ac pp from by rw [← hd]]
                rfl
              rw [show (nI (first + 1)).toInt64 = lN (first + 1) from nI_l (by omega), lg_cmp_ge, lN_le2 (by omega) (by omega)]
              by_cases cf : m ≤ first + 1
              · refine br_t cf ?_
                rw [if_pos (by omega)] at ub
                rw [u5, ub] at el
                exact fin u _ ac pp u1 el Su (by omega) u4
              · refine br_f cf ?_
                rw [if_neg (by omega)] at ub
                have e64 : ((if lN m < ((nI (first + 1) + 64) : Int32).toInt64 then lN m else ((nI (first + 1) + 64) : Int32).toInt64) : Int64).toInt32 = nI (min (first + 64) (m - 1) + 1) := by
                  rw [show nI (first + 1) + 64 = nI (first + 1 + 64) from by rw [show (64 : Int32) = nI 64 from rfl, nI_add], show (nI (first + 1 + 64)).toInt64 = lN (first + 1 + 64) from nI_l (by omega)]
                  have ii : lN m < lN (first + 1 + 64) ↔ m < first + 1 + 64 := lN_lt2 (by omega) (by omega)
                  by_cases c' : m < first + 1 + 64
                  · rw [if_pos (ii.mpr c'), lN_i, show min (first + 64) (m - 1) + 1 = m by omega]
                  · rw [if_neg (fun z => c' (ii.mp z)), lN_i, show min (first + 64) (m - 1) + 1 = first + 1 + 64 by omega]
                rw [e64, show nI (first + 1) + 64 = nI (first + 64 + 1) from by rw [show (64 : Int32) = nI 64 from rfl, nI_add, show first + 1 + 64 = first + 64 + 1 by omega]]
                have nu := u1.len r
                refine k_blk ho Su (by omega) (by omega) (by omega) (by omega) (by omega) (by omega) u4 (fun e w w1 w2 w3 => ?_) (fun L q' w w1 w2 Sw w3 => ?_)
                · refine ih _ _ _ _ _ _ _ _ ⟨rfl, rfl, rfl, rfl, rfl, rfl, Fg.trans u1 (FrSB.cd w2), first + 64, rfl, by omega, Or.inl ⟨e, w3, ?_⟩⟩ (by rw [nI_clamp (by omega), nI_clamp (by omega)]; omega)
                  rw [el, u5, ub, w1]
                · rw [w1] at ub
                  obtain ⟨l1, -, -⟩ := blkR_ok S.t w1 (by omega) (by omega) (by omega) Su.le.1
                  refine ih _ _ _ _ _ _ _ _ ⟨rfl, rfl, rfl, rfl, rfl, rfl, Fg.trans u1 (FrSB.cd w2), first + 64, rfl, by omega, Or.inr ⟨L, q', Sw, by omega, w3, ?_⟩⟩ (by rw [nI_clamp (by omega), nI_clamp (by omega)]; omega)
                  rw [u5, ub]
                  exact bksF_fuel _ _ _ _ _ (by omega) (by omega)
          · have ej : j = 0 := by
              have : j < 1 := hj
              omega
            rw [ej, gL_at, show (0 : Int32).toNatClampNeg = 0 from rfl, updL_at]
            rfl
    · refine r_ck0 4 Sy (by decide) (by decide) (fun z z1 z2 => ⟨fun _ => f69 z 4 _ (Fg.trans (FrSr.cd y2) (FrSr.cd z1)) z2 ?_, fun w => absurd w z2.ne⟩)
      unfold lgs; rw [y1]; simp only; rw [if_pos c]
theorem k_lg {post : St → Prop} {r due : Nat} (ho : SrO o) (S : Sr o x T n p st) (hd : due ≤ 2000) (hr : fN x r = 2000)
    (pe : ∀ e y, lgs T due st p = .error e → FrCd o r x y → FlC o y e → post y)
    (pk : ∀ L y, lgs T due st p = .ok (L, st) → FrCd o r x y → Sr o y T n st st → (∀ j, j < due → fL y r j = L.getD j 0) → post y) : wp_Src_readCode post o r (nI due) 0 x := by
  unfold wp_Src_readCode
  refine nm_r S.hs (br_t rfl (k_lgs ho S hd hr S.le.2.1 (Nat.le_refl _) pe pk))
theorem k_cde {post : St → Prop} {r due : Nat} (ho : SrO o) (S : Sr o x T n p st) (hd : due ≤ 2000) (hr : fN x r = 2000)
    (pe : ∀ e y, cde T due st p = .error e → FrCd o r x y → FlC o y e → post y)
    (pk : ∀ L q y, cde T due st p = .ok (L, q) → FrCd o r x y → Sr o y T n q st → (∀ j, j < due → fL y r j = L.getD j 0) → post y) : wp_Src_readCode post o r (nI due) 1 x := by
  have hS := S.le
  unfold wp_Src_readCode
  refine nm_e (br_f (by decide) (r_vrd ho S (fun e y y1 y2 y3 => ?_) (fun v q y y1 y2 Sy v1 v2 => ?_)))
  · have er : cde T due st p = .error e := by unfold cde; rw [y1]
    refine k_narrow0 y3.ne (k_code20 y3.ne (pe e _ er (Fg.trans (FrSr.cd y2) (Fg.i ⟨rfl, by decide⟩)) ⟨(gI_ne (by decide)).trans y3.1, y3.2⟩))
  · have hSy := Sy.le
    have er : cde T due st p = (if st < q + v then .error 1 else lgs T due (q + v) q) := by unfold cde; rw [y1]
    refine k_narrow v1 Sy.h0 Sy.hp Sy.hs hSy.1 (by omega) (fun c => ?_) (fun c => ?_)
    · have fl : FlC o (setI y o 3 1) 1 := ⟨gI_at, by decide, by decide⟩
      refine k_code20 fl.ne (pe 1 _ (by rw [er, if_pos c]) (Fg.trans (Fg.trans (FrSr.cd y2) (Fg.i ⟨rfl, by decide⟩)) (Fg.i ⟨rfl, by decide⟩)) ⟨(gI_ne (by decide)).trans fl.1, fl.2⟩)
    · rw [if_neg (by omega)] at er
      have fz : FrCd o r x (setI y o 2 (nI (q + v))) := Fg.trans (FrSr.cd y2) (Fg.i ⟨rfl, by decide⟩)
      have Sz : Sr o (setI y o 2 (nI (q + v))) T n q (q + v) := ⟨Fg.fic fz ho.n82 S.1, (gI_ne (by decide)).trans Sy.h0, (gI_ne (by decide)).trans Sy.hp, gI_at, by omega, by omega⟩
      refine k_lgs ho Sz hd (by rw [fz.len r]; exact hr) hSy.2.1 c (fun e z z1 z2 z3 => pe e z (er.trans z1) (Fg.trans fz z2) z3) (fun L z z1 z2 z3 z4 => pk L _ z (er.trans z1) (Fg.trans fz z2) z3 z4)
end
