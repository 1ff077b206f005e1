/-! the Opener looks at a page: all of it -/
section
variable {x y z : St} {T : Nat → Nat} {n st p b : Nat} {F : List SFd}
theorem k_lookP {post : St → Prop} {c ct pg g G0 rh pgs dE : Nat} {E C : List SEn} (S : Sr 104 x T n p st) (hw : WfS F) (hR : RepC x 70 F) (hc : c < ncol F) (V : VtC x F b dE E) (hct : ct < 6000) (hpg : pg < 6000) (hne : pg ≠ ct) (tC : TeC x F b ct c (E.length - C.length) C) (hCE : C.length ≤ E.length) (h89 : fA x 89 pg = nI E.length) (h94 : fA x 94 pg = -1) (hcr : fI x 96 12 = nI (nR C)) (h98 : fA x 98 0 = nI g) (hg : g < 500) (hG0 : fA x 87 g = nI G0) (hG1 : fA x 87 (g + 1) = nI (G0 + rh)) (hG2 : G0 + rh ≤ 2000) (hpgs : fI x 97 3 = nI pgs)
    (pe : ∀ e y, pgO T F c E.length (tx E) st p = .error e → FrPC b x y → FlC 104 y e → post y)
    (pk : ∀ L W q y b' dE', pgO T F c E.length (tx E) st p = .ok ((L, W), q) → FrPC b x y → Sr 104 y T n q q → KpP x y F b b' dE dE' c ct pg G0 rh E C L W → fI y 97 3 = nI (pgs + 1) → post y) : wp_Opn_lookAtPage post 96 (nI c) (nI ct) (nI pg) x := by
  have hS := S.le
  obtain ⟨v4, vE, v14, vb1, vb2, v16, vtx, v13, vd, vEn⟩ := V
  obtain ⟨l1, l2, l3⟩ := lfC_ok hc
  obtain ⟨ty4, tyE⟩ := ty_lt hw hc
  have l17 := lv17 hw hc
  have h128 := hw.1
  have h64 := hw.2.1
  have hbn : n ≤ b := by omega
  have hL := S.1.1
  -- the fault of the page is the fault
  have erO : ∀ e, pgR T (tyC F c) (mrC F c) (mdC F c) st p = .error e → pgO T F c E.length (tx E) st p = .error e := fun e h => by unfold pgO; rw [h]
  -- in a fault, from the checks behind the values on
  have f281 : ∀ e u l5 l6 l7 l8 s0, pgO T F c E.length (tx E) st p = .error e → FrPC b x u → FlC 104 u e → j_Opn_lookAtPage_281 post 96 (nI c) (nI ct) (nI pg) (nI (lfC F c)) l5 l6 l7 l8 s0 104 u := fun e u l5 l6 l7 l8 s0 h1 h2 h3 => by
    unfold j_Opn_lookAtPage_281
    exact k_ckf h3.ne (k_order0 h3.ne (bn_f h3.ne (pe e u h1 h2 h3)))
  have f249 : ∀ e u l5 l6 l7 l8 s0, pgO T F c E.length (tx E) st p = .error e → FrQC b x u → FlC 104 u e → j_Opn_lookAtPage_249 post 96 (nI c) (nI ct) (nI pg) (nI (lfC F c)) l5 l6 l7 l8 s0 104 u := fun e u l5 l6 l7 l8 s0 h1 h2 h3 => by
    unfold j_Opn_lookAtPage_249
    refine k_ckf h3.ne ⟨?_, ⟨fun _ => f281 e u _ _ _ _ _ h1 h2.pc h3, fun _ => f281 e u _ _ _ _ _ h1 h2.pc h3⟩⟩
    rw [show stC 96 0 = 97 from rfl, show stC 97 7 = 83 from rfl, (h2.1.ii (by decide)).trans v4, h2.1.len, show fN x 83 = 11001 from hL 83 (by decide)]
    exact vp_in_nI (by omega) (by decide)
  have fchk : ∀ e u l5 l6 (l7 l8 : Int32), pgO T F c E.length (tx E) st p = .error e → FrQC b x u → FlC 104 u e → ((10000 < ((fI u (stC 96 0) 4) + l7) → j_Opn_lookAtPage_248 post 96 (nI c) (nI ct) (nI pg) (nI (lfC F c)) l5 l6 l7 l8 (stC 96 2) u) ∧ (¬ 10000 < ((fI u (stC 96 0) 4) + l7) → ((60000 < ((fI u 96 16) + (fI u 96 15)) → j_Opn_lookAtPage_248 post 96 (nI c) (nI ct) (nI pg) (nI (lfC F c)) l5 l6 l7 l8 (stC 96 2) u) ∧ (¬ 60000 < ((fI u 96 16) + (fI u 96 15)) → j_Opn_lookAtPage_249 post 96 (nI c) (nI ct) (nI pg) (nI (lfC F c)) l5 l6 l7 l8 1 (stC 96 2) u)))) := fun e u l5 l6 l7 l8 h1 h2 h3 => by
    unfold j_Opn_lookAtPage_248
    exact ⟨fun _ => f249 e u _ _ _ _ _ h1 h2 h3, fun _ => ⟨fun _ => f249 e u _ _ _ _ _ h1 h2 h3, fun _ => f249 e u _ _ _ _ _ h1 h2 h3⟩⟩
  have f156 : ∀ e u l5 l6 l7 l8 s0, pgO T F c E.length (tx E) st p = .error e → FrQC b x u → FlC 104 u e → j_Opn_lookAtPage_156 post 96 (nI c) (nI ct) (nI pg) (nI (lfC F c)) l5 l6 l7 l8 s0 104 u := fun e u l5 l6 l7 l8 s0 h1 h2 h3 => by
    unfold j_Opn_lookAtPage_156
    exact k_ckf h3.ne (br_f h3.ne (pe e u h1 h2.pc h3))
  unfold wp_Opn_lookAtPage
  rw [show stC (stC (stC 96 0) 5) 10 = 79 from rfl, show stC (stC (stC 96 0) 5) 3 = 72 from rfl, show stC (stC (stC 96 0) 5) 5 = 74 from rfl, show stC (stC (stC 96 0) 5) 6 = 75 from rfl, show stC (stC 96 0) 14 = 90 from rfl, show stC (stC 96 0) 15 = 91 from rfl, show stC (stC 96 0) 7 = 83 from rfl, show stC (stC 96 0) 8 = 84 from rfl, show stC 96 2 = 104 from rfl, show fN x 79 = 64 from hL 79 (by decide), show fN x 72 = 128 from hL 72 (by decide), rA_nI (by omega : c < 2 ^ 31), col79 hR hc]
  refine ⟨vp_in_nI (by omega) (by decide), nm_e ⟨vp_in_nI (by omega) (by decide), nm_r (e' := nI (tyC F c)) (by rw [rA_nI (by omega), col72 hw hR hc]) ?_⟩⟩
  refine k_head S ty4 hpg hbn (fun e y y1 y2 y3 v => br_f y3.ne (pe e y (erO e ?_) (FrQC.pc (FrQC.hd y2)) y3)) (fun h q y y1 y2 Sy y3 hdC hh1 hh2 hh3 hh4 => br_t Sy.h0 ?_)
  · rw [pgR_hd, y1]
  obtain ⟨m, no, how, lo, hi, en⟩ := h
  simp only at Sy y3 hh1 hh2 hh3 hh4
  obtain ⟨y90, y91, y92, yR⟩ := hdC
  simp only at y90 y91 yR
  have erB : pgR T (tyC F c) (mrC F c) (mdC F c) st p = (match bdR T (tyC F c) (mrC F c) (mdC F c) m (m - no) how lo hi en q with
      | .error e => .error e
      | .ok (d, _) => .ok ((how, d), en)) := by rw [pgR_hd, y1]; rfl
  have qy : FrQC b x y := FrQC.hd y2
  have Ly : LC y := Sy.1.1
  have Ry : RepC y 70 F := qy.pc.rep hR
  refine ⟨by rw [show fN y 90 = 6000 from Ly 90 (by decide)]; exact vp_in_nI hpg (by decide), nm_r (e' := nI m) (by rw [rA_nI (by omega), y90, upd_at]) ⟨by rw [show fN y 74 = 128 from Ly 74 (by decide)]; exact vp_in_nI (by omega) (by decide), ?_⟩⟩
  rw [show rA y 74 (nI (lfC F c)) = nI (mrC F c) from by rw [rA_nI (by omega), col74 Ry hc]]
  have hEy : fI y 97 4 = nI E.length := (y2.ii (by decide)).trans v4
  -- in a fault, from the second levels on
  have fnul : ∀ e u, pgR T (tyC F c) (mrC F c) (mdC F c) st p = .error e → FrQC b x u → FlC 104 u e → ∀ most, wp_Opn_countNulls (fun (r25 : Int32) (x24 : St) => (vp_in (nI pg) (fN x24 91) ∧ ((¬ r25 = (rA x24 91 (nI pg)) → j_Opn_lookAtPage_156 post 96 (nI c) (nI ct) (nI pg) (nI (lfC F c)) (nI (tyC F c)) (nI how) (nI m) r25 0 104 x24) ∧ (r25 = (rA x24 91 (nI pg)) → j_Opn_lookAtPage_156 post 96 (nI c) (nI ct) (nI pg) (nI (lfC F c)) (nI (tyC F c)) (nI how) (nI m) r25 1 104 x24)))) 96 (nI m) most u := fun e u h1 h2 h3 most => by
    have Lu : LC u := fun r hr => (h2.1.len r).trans (hL r hr)
    refine k_nul0 (E := E.length) Lu ((h2.1.ii (by decide)).trans v4) vE hh3 (fun v => ⟨by rw [show fN u 91 = 6000 from Lu 91 (by decide)]; exact vp_in_nI hpg (by decide), ⟨fun _ => f156 e u _ _ _ _ _ (erO e h1) h2 h3, fun _ => f156 e u _ _ _ _ _ (erO e h1) h2 h3⟩⟩)
  refine k_lvR (r := 83) Sy (Or.inl rfl) hEy vE hh3 (by omega) (fun e z z1 z2 z3 => ?_) (fun R q1 z z1 z2 Sz rl rle zr zk => ?_)
  · have er : pgR T (tyC F c) (mrC F c) (mdC F c) st p = .error e := by rw [erB]; unfold bdR; rw [z1]
    have qz : FrQC b x z := qy.trans (FrQC.lv (Or.inl rfl) z2)
    have Lz : LC z := fun r hr => (qz.1.len r).trans (hL r hr)
    refine ⟨by rw [show fN z 75 = 128 from Lz 75 (by decide)]; exact vp_in_nI (by omega) (by decide), k_lvR0 z3.ne ⟨by rw [show fN z 75 = 128 from Lz 75 (by decide)]; exact vp_in_nI (by omega) (by decide), fnul e z er qz z3 _⟩⟩
  have qz : FrQC b x z := qy.trans (FrQC.lv (Or.inl rfl) z2)
  have Rz : RepC z 70 F := qz.pc.rep hR
  have Lz : LC z := Sz.1.1
  refine ⟨by rw [show fN z 75 = 128 from Lz 75 (by decide)]; exact vp_in_nI (by omega) (by decide), ?_⟩
  rw [show rA z 75 (nI (lfC F c)) = nI (mdC F c) from by rw [rA_nI (by omega), col75 Rz hc]]
  refine k_lvR (r := 84) Sz (Or.inr rfl) ((z2.ii (by decide)).trans hEy) vE hh3 (by omega) (fun e u u1 u2 u3 => ?_) (fun D q2 u u1 u2 Su dl dle ur uk => ?_)
  · have er : pgR T (tyC F c) (mrC F c) (mdC F c) st p = .error e := by rw [erB]; unfold bdR; rw [z1]; simp only; rw [u1]
    have qu : FrQC b x u := qz.trans (FrQC.lv (Or.inr rfl) u2)
    have Lu : LC u := fun r hr => (qu.1.len r).trans (hL r hr)
    exact ⟨by rw [show fN u 75 = 128 from Lu 75 (by decide)]; exact vp_in_nI (by omega) (by decide), fnul e u er qu u3 _⟩
  have qu : FrQC b x u := qz.trans (FrQC.lv (Or.inr rfl) u2)
  have Ru : RepC u 70 F := qu.pc.rep hR
  have Lu : LC u := Su.1.1
  refine ⟨by rw [show fN u 75 = 128 from Lu 75 (by decide)]; exact vp_in_nI (by omega) (by decide), ?_⟩
  rw [show rA u 75 (nI (lfC F c)) = nI (mdC F c) from by rw [rA_nI (by omega), col75 Ru hc]]
  have u91 : fA u 91 pg = nI no := by rw [u2.aa (by decide), z2.aa (by decide), y91, upd_at]
  have hvl := hv_le (md := mdC F c) D
  refine k_nul (E := E.length) (D := D) Lu ((u2.ii (by decide)).trans ((z2.ii (by decide)).trans hEy)) vE hh3 (by omega) dl ur dle ⟨by rw [show fN u 91 = 6000 from Lu 91 (by decide)]; exact vp_in_nI hpg (by decide), ?_⟩
  rw [rA_nI (by omega : pg < 2 ^ 31), u91]
  have erD : pgR T (tyC F c) (mrC F c) (mdC F c) st p = (match (if hvN (mdC F c) D ≠ m - no then (.error 10 : Rd PgT) else match vlR T (tyC F c) how (m - no) en q2 with
      | .error e => .error e
      | .ok (PW, q2) => if q2 < en then .error 6 else if m - no ≠ 0 ∧ kv (tyC F c) (pvd PW.1 (mnF (tyC F c) PW.1 (m - no - 1))) ≠ kv (tyC F c) lo then .error 11 else if m - no ≠ 0 ∧ kv (tyC F c) (pvd PW.1 (mxF (tyC F c) PW.1 (m - no - 1))) ≠ kv (tyC F c) hi then .error 12 else .ok ((R, D, PW.1, PW.2), q2)) with
      | .error e => .error e
      | .ok (d, _) => .ok ((how, d), en)) := by rw [erB]; unfold bdR; rw [z1]; simp only; rw [u1]; rfl
  by_cases ch : hvN (mdC F c) D = m - no
  rotate_left
  · rw [if_pos ch] at erD
    refine bn_f (fun z => ch ?_) ?_
    · have := nI_inj (by omega) (by omega) z
      omega
    unfold j_Opn_lookAtPage_156
    exact r_ck0 10 Su (by decide) (by decide) (fun w w1 w2 => br_f w2.ne (pe 10 w (erO 10 erD) (FrQC.pc (qu.trans (FrQC.sr w1))) w2))
  rw [if_neg (fun z => z ch)] at erD
  obtain ⟨som, hsom⟩ : ∃ som, som = m - no := ⟨_, rfl⟩
  rw [← hsom] at erD ch
  refine bn_t (by congr 1; omega) ?_
  unfold j_Opn_lookAtPage_156
  refine k_ck1 (br_t Su.h0 (nm_e (nm_e ?_)))
  rw [nI_sub (by omega : m - hvN (mdC F c) D ≤ m), show m - (m - hvN (mdC F c) D) = som by omega]
  have qv : FrQC b x (setI (setI u 96 9 (nI som)) 96 15 0) := (qu.trans (FrQC.i (by decide))).trans (FrQC.i (by decide))
  have Sv : Sr 104 (setI (setI u 96 9 (nI som)) 96 15 0) T n q2 en := (Su.i (by decide)).i (by decide)
  have w9 : fI (setI (setI u 96 9 (nI som)) 96 15 0) 96 9 = nI som := (gI_ne (by decide)).trans gI_at
  have w15 : fI (setI (setI u 96 9 (nI som)) 96 15 0) 96 15 = 0 := gI_at
  have w14 : fI (setI (setI u 96 9 (nI som)) 96 15 0) 96 14 = nI b := (gI_ne (by decide)).trans ((gI_ne (by decide)).trans ((u2.ii (by decide)).trans ((z2.ii (by decide)).trans ((y2.ii (by decide)).trans v14))))
  have w13 : fI (setI (setI u 96 9 (nI som)) 96 15 0) 96 13 = nI dE := (gI_ne (by decide)).trans ((gI_ne (by decide)).trans ((u2.ii (by decide)).trans ((z2.ii (by decide)).trans ((y2.ii (by decide)).trans v13))))
  have vA : ∀ r, fA (setI (setI u 96 9 (nI som)) 96 15 0) r = fA u r := fun r => rfl
  have vL : ∀ r, fL (setI (setI u 96 9 (nI som)) 96 15 0) r = fL u r := fun r => rfl
  generalize setI (setI u 96 9 (nI som)) 96 15 0 = v at *
  refine k_vals (b := b) (pg := pg) (dE := dE) ty4 hh1 Sv (by omega) w9 w15 w14 vb1 (by omega) w13 (by omega) hpg (fun e w w1 w2 w3 => ?_) (fun P W w b' w1 w2 Sw pl po bb bb' x14 vP x15 dc => ?_)
  · have er : pgO T F c E.length (tx E) st p = .error e := by
      refine erO e ?_
      rw [erD]
      rcases w1 with a | ⟨PW, qq, a1, a2, a3⟩
      · rw [a]
      · rw [a1]; simp only; rw [if_pos a2, a3]
    exact k_bnd0 w3.ne (fchk e w _ _ _ _ er (qv.trans (FrQC.vc w2)) w3)
  rw [w1] at erD
  simp only at erD
  rw [if_neg (Nat.lt_irrefl _)] at erD
  have qw : FrQC b x w := qv.trans (FrQC.vc w2)
  obtain ⟨okP, okW, -, -⟩ := vlR_pv ty4 S.t w1 Sv.le.1
  have w92 : fL w 92 = fL y 92 := (w2.1.ll (by decide)).trans ((vL 92).trans ((u2.ll (by decide)).trans (z2.ll (by decide))))
  have w93 : fL w 93 = fL y 93 := (w2.1.ll (by decide)).trans ((vL 93).trans ((u2.ll (by decide)).trans (z2.ll (by decide))))
  have y82 : ∀ i, i < b → fA w 82 i = fA y 82 i := fun i hi => (qw.2 i hi).trans (qy.2 i hi).symm
  have lohi : P.length ≠ 0 → RfP w b' (tyC F c) (fL w 92 pg) lo ∧ RfP w b' (tyC F c) (fL w 93 pg) hi := fun z => by
    obtain ⟨a1, a2⟩ := yR (by omega)
    rw [w92, w93]
    exact ⟨a1.up y82 bb, a2.up y82 bb⟩
  rw [← pl] at erD
  refine k_ckB (b := b') (lo := lo) (hi := hi) (P := P) Sw ty4 hpg (by omega) (by omega) ((w2.1.ii (by decide)).trans (by rw [pl]; exact w9)) vP okP lohi (fun z => ⟨(lohi z).1.ok, (lohi z).2.ok⟩) (fun e w' r1 r2 r3 => ?_) (fun r1 r2 => ?_)
  · refine fchk e w' _ _ _ _ (erO e ?_) (qw.trans (FrQC.sr r2)) r3
    rw [erD]
    rcases r1 with ⟨a, b1, c1⟩ | ⟨a, a2, b1, c1⟩
    · rw [if_pos ⟨a, b1⟩, c1]
    · rw [if_neg (fun z => z.2 a2), if_pos ⟨a, b1⟩, c1]
  rw [if_neg r1, if_neg r2] at erD
  simp only at erD
  have erP : pgO T F c E.length (tx E) st p = (if 10000 < E.length + D.length ∨ 60000 < tx E + oF P P.length then .error 22 else if R.getD 0 0 ≠ 0 then .error 19 else if ∃ k, k < D.length ∧ 1 ≤ k ∧ badO F (lfC F c) R D k then .error 20 else .ok ((entL c (mdC F c) R D P, if W.length ≤ 100 then W else []), en)) := by unfold pgO; rw [erD]
  have x4 : fI w 97 4 = nI E.length := (qw.1.ii (by decide)).trans v4
  have x16 : fI w 96 16 = nI (tx E) := (qw.1.ii (by decide)).trans v16
  rw [show stC 96 0 = 97 from rfl, show stC 96 2 = 104 from rfl, x4, nI_add, x16, x15, nI_add]
  -- there is no room
  have full : 10000 < E.length + D.length ∨ 60000 < tx E + oF P P.length → j_Opn_lookAtPage_248 post 96 (nI c) (nI ct) (nI pg) (nI (lfC F c)) (nI (tyC F c)) (nI how) (nI m) (nI (m - hvN (mdC F c) D)) 104 w := fun cf => by
    rw [if_pos cf] at erP
    unfold j_Opn_lookAtPage_248 j_Opn_lookAtPage_249
    refine r_ck0 22 Sw (by decide) (by decide) (fun w' s1 s2 => ⟨?_, ⟨fun _ => f281 22 w' _ _ _ _ _ erP (FrQC.pc (qw.trans (FrQC.sr s1))) s2, fun _ => f281 22 w' _ _ _ _ _ erP (FrQC.pc (qw.trans (FrQC.sr s1))) s2⟩⟩)
    rw [show stC 96 0 = 97 from rfl, show stC 97 7 = 83 from rfl, (s1.ii (by decide)).trans x4, s1.len, show fN w 83 = 11001 from Sw.1.1 83 (by decide)]
    exact vp_in_nI (by omega) (by decide)
  by_cases cf1 : 10000 < E.length + m
  · exact br_t (by (first | omega | (simp (disch := omega) only [Int32.le_iff_toInt_le, Int32.lt_iff_toInt_lt, z_eq, z_in, nI_toInt, z_cl, z_m1, z_sg, z_255, Int32.reduceToInt] <;> omega) | (simp only [Int32.le_iff_toInt_le, Int32.lt_iff_toInt_lt, z_eq, z_in, z_add, z_sub, z_mul, z_neg, z_nI, z_cl, z_sg, z_255, z_lit, Int32.reduceToInt] <;> omega))) (full (Or.inl (by omega)))
  refine br_f (by (first | omega | (simp (disch := omega) only [Int32.le_iff_toInt_le, Int32.lt_iff_toInt_lt, z_eq, z_in, nI_toInt, z_cl, z_m1, z_sg, z_255, Int32.reduceToInt] <;> omega) | (simp only [Int32.le_iff_toInt_le, Int32.lt_iff_toInt_lt, z_eq, z_in, z_add, z_sub, z_mul, z_neg, z_nI, z_cl, z_sg, z_255, z_lit, Int32.reduceToInt] <;> omega))) ?_
  by_cases cf2 : 60000 < tx E + oF P P.length
  · exact br_t (by (first | omega | (simp (disch := omega) only [Int32.le_iff_toInt_le, Int32.lt_iff_toInt_lt, z_eq, z_in, nI_toInt, z_cl, z_m1, z_sg, z_255, Int32.reduceToInt] <;> omega) | (simp only [Int32.le_iff_toInt_le, Int32.lt_iff_toInt_lt, z_eq, z_in, z_add, z_sub, z_mul, z_neg, z_nI, z_cl, z_sg, z_255, z_lit, Int32.reduceToInt] <;> omega))) (full (Or.inr cf2))
  refine br_f (by (first | omega | (simp (disch := omega) only [Int32.le_iff_toInt_le, Int32.lt_iff_toInt_lt, z_eq, z_in, nI_toInt, z_cl, z_m1, z_sg, z_255, Int32.reduceToInt] <;> omega) | (simp only [Int32.le_iff_toInt_le, Int32.lt_iff_toInt_lt, z_eq, z_in, z_add, z_sub, z_mul, z_neg, z_nI, z_cl, z_sg, z_255, z_lit, Int32.reduceToInt] <;> omega))) ?_
  rw [if_neg (by omega)] at erP
  unfold j_Opn_lookAtPage_249
  refine k_ck1 ⟨?_, ?_⟩
  · rw [show stC 96 0 = 97 from rfl, show stC 97 7 = 83 from rfl, x4, show fN w 83 = 11001 from Sw.1.1 83 (by decide)]
    exact vp_in_nI (by omega) (by decide)
  have row83 : ∀ i, i < m → fA w 83 (E.length + i) = nI (R.getD i 0) := fun i hi => by rw [w2.1.aa (by decide), vA, u2.aa (by decide)]; exact zr i hi
  have row84 : ∀ i, i < m → fA w 84 (E.length + i) = nI (D.getD i 0) := fun i hi => by rw [w2.1.aa (by decide), vA]; exact ur i hi
  have rgm : ∀ i, i < m → R.getD i 0 ≤ mrC F c := fun i hi => rle _ (getD_mem (B := R) (show i < R.length by omega))
  have dgm : ∀ i, i < m → D.getD i 0 ≤ mdC F c := fun i hi => dle _ (getD_mem (B := D) (show i < D.length by omega))
  rw [show stC 96 0 = 97 from rfl, show stC 97 7 = 83 from rfl, x4, rA_nI (by omega), show fA w 83 E.length = nI (R.getD 0 0) from row83 0 (by omega)]
  have r0 := rgm 0 (by omega)
  by_cases c19 : R.getD 0 0 = 0
  rotate_left
  · rw [if_pos c19] at erP
    refine bn_f (fun z => c19 (nI_inj (b := 0) (by omega) (by decide) z)) ?_
    unfold j_Opn_lookAtPage_281
    exact r_ck0 19 Sw (by decide) (by decide) (fun w' s1 s2 => k_order0 s2.ne (bn_f s2.ne (pe 19 w' erP (FrQC.pc (qw.trans (FrQC.sr s1))) s2)))
  rw [if_neg (fun z => z c19)] at erP
  refine bn_t (by rw [c19]; rfl) ?_
  unfold j_Opn_lookAtPage_281
  refine k_ck1 (k_order (E := E.length) (R := R) (D := D) Sw hw (qw.pc.rep hR) l1 x4 vE hh3 (fun i hi => ⟨row83 i hi, row84 i hi⟩) rgm (fun i hi => by have := dgm i hi; omega) (fun w' s0 s1 s2 => bn_f s2.ne (pe 20 w' ?_ (FrQC.pc (qw.trans (FrQC.sr s1))) s2)) (fun s0 => bn_t Sw.h0 ?_))
  · rw [← dl] at s0
    rw [erP, if_pos s0]
  rw [if_neg (by rw [dl]; exact s0)] at erP
  -- it is kept
  have x90 : fA w 90 = upd (fA x 90) pg (nI m) := by rw [w2.1.aa (by decide), vA, u2.aa (by decide), z2.aa (by decide), y90]
  have x91 : fA w 91 = upd (fA x 91) pg (nI no) := by rw [w2.1.aa (by decide), vA, u2.aa (by decide), z2.aa (by decide), y91]
  have v94 : fA v 94 = fA x 94 := by rw [vA, u2.aa (by decide), z2.aa (by decide), y2.aa (by decide)]
  have v95 : fL v 95 = fL x 95 := by rw [vL, u2.ll (by decide), z2.ll (by decide), y2.ll (by decide)]
  obtain ⟨dc1, dc2⟩ := dc
  have tw : (if W.length ≤ 100 then W else []) = trW W := rfl
  have wlen : (trW W).length ≤ som := by
    unfold trW
    have := (pgR_ok ty4 S.t erD)
    split
    · have := this.2.2.2.2.2.2.2.2.2.2.2.1
      omega
    · exact Nat.zero_le _
  obtain ⟨dE', hdE', hd1, hd2, hd3, hd4⟩ : ∃ dE', fI w 96 13 = nI dE' ∧ dE ≤ dE' ∧ dE' ≤ dE + som ∧ (∀ t, t ≠ pg → fA w 94 t = fA x 94 t) ∧ DiC w b' dE' pg (tyC F c) (trW W) (P = []) := by
    rcases dc2 with ⟨a1, a2, a3⟩ | ⟨a1, a2, a3, a4⟩
    · exact ⟨dE, a2, Nat.le_refl _, by omega, fun t _ => by rw [a3, v94], Or.inl ⟨by rw [a3, v94]; exact h94, a1⟩⟩
    · exact ⟨dE + (trW W).length, a2, by omega, by omega, fun t ht => by rw [a1, upd_ne ht, v94], Or.inr ⟨dE, by rw [a1, upd_at], Nat.le_refl _, a3, a4⟩⟩
  have e82 : ∀ i, i < b → fA w 82 i = fA x 82 i := qw.2
  have bP : BdC w b' (tyC F c) P (fL w 92 pg) (fL w 93 pg) := fun z => by
    have z' : P.length ≠ 0 := fun h => z (List.length_eq_zero_iff.mp h)
    obtain ⟨m1, m2⟩ := mn_all okP z'
    refine ⟨_, _, (lohi z').1.ofK ?_, m1, (lohi z').2.ofK ?_, m2⟩
    · exact Classical.byContradiction (fun h => r1 ⟨z', fun e => h e.symm⟩)
    · exact Classical.byContradiction (fun h => r2 ⟨z', fun e => h e.symm⟩)
  refine k_keep (b := b) (b' := b') (dE := dE) (dE' := dE') (m := m) (no := no) (E := E) (C := C) (R := R) (D := D) (P := P) (W := trW W) (g := g) (G0 := G0) (rh := rh) (pgs := pgs) Sw.1.1 hw (qw.pc.rep hR) hc x4 (by omega) bb (by omega) (by omega) x14 x16 (by omega) x15 hdE' hd1 (by omega) ?_ hct hpg hne ?_ hCE ?_ (by rw [x90, upd_at]) (by rw [x91, upd_at]) (by omega) hd4 dl hh3 rl (by omega) (fun i hi => ⟨row83 i hi, row84 i hi⟩) dle rle ((w2.1.ii (by decide)).trans (by rw [pl]; exact w9)) vP bP ((qw.1.ii (by decide)).trans hcr) (by rw [qw.1.aa (by decide)]; exact h98) hg (by rw [qw.1.aa (by decide)]; exact hG0) (by rw [qw.1.aa (by decide)]; exact hG1) hG2 ((qw.1.ii (by decide)).trans hpgs) (fun t t1 t2 t3 t4 t5 => ?_)
  · intro i hi
    refine (vEn i hi).up ?_ ?_ (by rw [qw.1.ll (by decide)]) e82 bb
    · rw [w2.1.aa (by decide), vA, u2.aa (by decide), zk i hi, y2.aa (by decide)]
    · rw [w2.1.aa (by decide), vA, uk i hi, z2.aa (by decide), y2.aa (by decide)]
  · refine tC.up (by rw [qw.1.aa (by decide)]) (by rw [x90, upd_ne (fun z => hne z.symm)]) (by rw [x91, upd_ne (fun z => hne z.symm)]) ?_ ?_ e82 bb
    · rw [w92]; exact (y92 ct (fun z => hne z.symm)).1
    · rw [w93]; exact (y92 ct (fun z => hne z.symm)).2
  · rw [qw.1.aa (by decide)]; exact h89
  · rw [tw] at erP
    obtain ⟨q1', q2', q3', q4', q5', q6', q7', q8', q9', q10', q11', q12'⟩ := t4
    refine pk _ _ _ t b' dE' erP (qw.pc.trans t1) ?_ ⟨q1', q2', q3', q4', q5', q6', fun tt h1 h2 => ?_, fun tt h => by rw [q8' tt h]; exact hd3 tt h, fun i hi => by rw [q9' i hi, dc1 i hi, v95], q10', q11', fun a ha => by rw [q12' a ha, qw.1.aa (by decide)]⟩ t5
    · have := Sw.2.2.2.2
      exact ⟨t1.fi Sw.1 hbn, (t2 104 3 rfl).trans Sw.h0, (t2 104 1 rfl).trans Sw.hp, (t2 104 2 rfl).trans Sw.hs, this.1, this.2⟩
    · obtain ⟨a1, a2, a3, a4⟩ := q7' tt h1 h2
      obtain ⟨b1, b2⟩ := y92 tt h2
      exact ⟨by rw [a1, x90, upd_ne h2], by rw [a2, x91, upd_ne h2], by rw [a3, w92, b1], by rw [a4, w93, b2]⟩
end
