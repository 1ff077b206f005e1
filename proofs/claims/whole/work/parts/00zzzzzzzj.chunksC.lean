/-! the Opener looks at all chunks -/
section
variable {x y z : St} {T : Nat → Nat} {n p b dE : Nat} {F : List SFd} {G : List Nat} {K : List ChT}
theorem VtC.fr {E : List SEn} {I J R : Nat → Nat → Prop} {A L : Nat → Prop} (h : VtC x F b dE E) (f : Fg I J R A L x y) (h1 : ¬ I 97 4) (h2 : ¬ I 96 14) (h3 : ¬ I 96 16) (h4 : ¬ I 96 13) (h5 : ¬ A 82) (h6 : ∀ i, i < E.length → fA y 83 i = fA x 83 i) (h7 : ¬ A 84) (h8 : ¬ L 85) : VtC y F b dE E := by
  obtain ⟨w4, wE, w14, wb1, wb2, w16, wtx, w13, wd, wEn⟩ := h
  exact ⟨(f.ii h1).trans w4, wE, (f.ii h2).trans w14, wb1, wb2, (f.ii h3).trans w16, wtx, (f.ii h4).trans w13, wd, fun i hi => (wEn i hi).up (h6 i hi) (by rw [f.aa h7]) (by rw [f.ll h8]) (fun i _ => by rw [f.aa h5]) (Nat.le_refl _)⟩
theorem CsC.fr {CK : List (List PgW)} {I J R : Nat → Nat → Prop} {A L : Nat → Prop} (h : CsC x F G b dE CK) (f : Fg I J R A L x y) (h1 : ∀ r, A r → r = 83 ∨ r = 87 ∨ r = 98) (h2 : ∀ r, ¬ L r) : CsC y F G b dE CK := by
  have a : ∀ r, r ≠ 83 → r ≠ 87 → r ≠ 98 → fA y r = fA x r := fun r r1 r2 r3 => f.aa (fun z => by have := h1 r z; omega)
  exact h.up (fun s _ => ⟨by rw [a 89 (by decide) (by decide) (by decide)], by rw [a 90 (by decide) (by decide) (by decide)], by rw [a 91 (by decide) (by decide) (by decide)], by rw [a 94 (by decide) (by decide) (by decide)], by rw [f.ll (h2 _)], by rw [f.ll (h2 _)]⟩) (fun w _ => by rw [a 88 (by decide) (by decide) (by decide)]) (fun w _ j _ => by rw [a 86 (by decide) (by decide) (by decide)]) (fun i _ => by rw [f.ll (h2 _)]) (Nat.le_refl _) (fun i _ => by rw [a 82 (by decide) (by decide) (by decide)]) (Nat.le_refl _)
/-- what is open, class -/
def OpC (y : St) (F : List SFd) (rows : Nat) (G : List Nat) (K : List ChT) (CK : List (List PgW)) : Prop := RepC y 70 F ∧ WfS F ∧ fI y 97 1 = nI rows ∧ fI y 97 2 = nI G.length ∧ (∀ h, h ≤ G.length → fA y 87 h = nI (smN (G.take h))) ∧ CK.length = G.length * ncol F ∧ 0 < ncol F ∧ smN G ≤ 2000 ∧ G.length ≤ 500 ∧ K.length = CK.length ∧ (∀ e, e ∈ enA CK → okE F e) ∧ tlN CK < 6000 ∧ 2 * CK.length ≤ tlN CK ∧ fA y 83 (enA CK).length = 0 ∧ ∃ b dE, BeS y F G b dE CK
theorem k_chunks {post : Int32 → St → Prop} {rows st0 q2 q3 : Nat} (S : Sr 104 x T n 4 st0) (S2 : FiC x T n ∧ fI x 102 3 = 0 ∧ fI x 102 2 = nI (n - 12)) (h5 : fI x 96 5 = nI q2) (hq2 : q2 ≤ n - 12) (hw : WfS F) (hR : RepC x 70 F) (hN : 0 < ncol F) (hG : G.length ≤ 500) (h971 : fI x 97 1 = nI rows) (h972 : fI x 97 2 = nI G.length) (hgp : gpsO T F (n - 12) G.length [] [] q2 = .ok ((G, K), q3)) (hKb : 4 + bsm K + 4 * K.length ≤ n - 12) (hsm : smN G ≤ 2000)
    (pe : ∀ z y, grpO T F G K G.length 0 [] 4 = .error z → FrLC x y → FlC 104 y z.1 → fA y 98 0 = z.2.1 → fA y 98 1 = z.2.2.1 → fA y 98 2 = z.2.2.2 → post (nI z.1) y)
    (pk : ∀ CK q y, grpO T F G K G.length 0 [] 4 = .ok (CK, q) → FrLC x y → OpC y F rows G K CK → (∀ k, k < 3 → fA y 98 k = -1) → post 0 y) : wp_Opn_lookAtChunks post 96 x := by
  have hS := S.le
  have hT := S.t
  have h64 := hw.2.1
  obtain ⟨-, gl, -, kl, gb, -⟩ := gpsO_pre hT _ _ _ _ _ _ _ hgp hq2
  have kl : K.length = ncol F * G.length := by rw [kl]; show 0 + _ = _; omega
  unfold wp_Opn_lookAtChunks
  rw [show stC (stC 96 0) 11 = 87 from rfl, show stC 96 0 = 97 from rfl, show stC 96 1 = 102 from rfl]
  refine nm_e (nm_e ⟨by show vp_in _ (fN x 87); rw [show fN x 87 = 501 from S.1.1 87 (by decide)]; exact vp_in_nI (n := 0) (by decide) (by decide), nm_e (nm_e (nm_e (nm_e (nm_e (nm_e ?_)))))⟩)
  -- the world in which it begins
  obtain ⟨v, hv⟩ : ∃ v, v = setI (setI (setI (setI (setI (setA (setI (setI x 97 4 0) 97 3 0) 87 0 0) 96 10 0) 96 13 0) 96 14 40000) 96 16 0) 102 1 (fI (setI (setI (setI (setI (setA (setI (setI x 97 4 0) 97 3 0) 87 0 0) 96 10 0) 96 13 0) 96 14 40000) 96 16 0) 96 5) := ⟨_, rfl⟩
  rw [← hv]
  have fv : Fg (fun a k => a = 97 ∧ (k = 3 ∨ k = 4) ∨ a = 96 ∧ (k = 10 ∨ k = 13 ∨ k = 14 ∨ k = 16) ∨ a = 102 ∧ k = 1) no2 no2 (fun a => a = 87) no1 x v := by
    rw [hv]
    exact Fg.trans (Fg.trans (Fg.trans (Fg.trans (Fg.trans (Fg.trans (Fg.trans (Fg.i (Or.inl ⟨rfl, by decide⟩)) (Fg.i (Or.inl ⟨rfl, by decide⟩))) (Fg.a rfl)) (Fg.i (Or.inr (Or.inl ⟨rfl, by decide⟩)))) (Fg.i (Or.inr (Or.inl ⟨rfl, by decide⟩)))) (Fg.i (Or.inr (Or.inl ⟨rfl, by decide⟩)))) (Fg.i (Or.inr (Or.inl ⟨rfl, by decide⟩)))) (Fg.i (Or.inr (Or.inr ⟨rfl, rfl⟩)))
  have v4 : fI v 97 4 = 0 := by
    rw [hv, gI_no (by decide), gI_no (by decide), gI_no (by decide), gI_no (by decide), gI_no (by decide)]
    show fI (setI (setI x 97 4 0) 97 3 0) 97 4 = 0
    rw [gI_ne (by decide)]; exact gI_at
  have v3 : fI v 97 3 = 0 := by
    rw [hv, gI_no (by decide), gI_no (by decide), gI_no (by decide), gI_no (by decide), gI_no (by decide)]
    show fI (setI (setI x 97 4 0) 97 3 0) 97 3 = 0
    exact gI_at
  have v10 : fI v 96 10 = 0 := by rw [hv, gI_no (by decide), gI_ne (by decide), gI_ne (by decide), gI_ne (by decide)]; exact gI_at
  have v13 : fI v 96 13 = 0 := by rw [hv, gI_no (by decide), gI_ne (by decide), gI_ne (by decide)]; exact gI_at
  have v14 : fI v 96 14 = 40000 := by rw [hv, gI_no (by decide), gI_ne (by decide)]; exact gI_at
  have v16 : fI v 96 16 = 0 := by rw [hv, gI_no (by decide)]; exact gI_at
  have v1 : fI v 102 1 = nI q2 := by
    rw [hv, gI_at, gI_ne (by decide), gI_ne (by decide), gI_ne (by decide), gI_ne (by decide)]
    show fI (setI (setI x 97 4 0) 97 3 0) 96 5 = _
    rw [gI_no (by decide), gI_no (by decide)]
    exact h5
  have v87 : fA v 87 0 = 0 := by
    rw [hv]
    show fA (setA (setI (setI x 97 4 0) 97 3 0) 87 (nI 0) 0) 87 0 = 0
    exact gA_on (by decide)
  clear hv
  have Sv : Sr 104 v T n 4 st0 := S.cg fv (by decide) (by decide) (by decide) (by decide)
  have Sv2 : Sr 102 v T n q2 (n - 12) := ⟨Sv.1, (fv.ii (by decide)).trans S2.2.1, v1, (fv.ii (by decide)).trans S2.2.2, hq2, by omega⟩
  have Lv : FrLC x v := FrLC.of fv (fun o k z => by omega) (fun _ _ z => z) (fun _ _ z => z) (fun a z => by have : a = 87 := z; omega) (fun a z => z.elim)
  have Bv : BeS v F G 40000 0 [] := ⟨⟨v4, Nat.zero_le _, v14, Nat.le_refl _, Nat.le_add_right _ _, v16, Nat.zero_le _, v13, Nat.le_refl _, fun i hi => absurd hi (Nat.not_lt_zero _)⟩, fun w hw => absurd hw (Nat.not_lt_zero _), v10, v3⟩
  refine lp_Opn_lookAtChunks_60 (fun a0 a1 y => 96 = a0 ∧ FrLC x y ∧ ∃ g CK G' K' fp pp st' b dE, nI g = a1 ∧ g ≤ G.length ∧ CK.length = g * ncol F ∧ G'.length = g ∧ K'.length = g * ncol F ∧ Sr 104 y T n pp st' ∧ Sr 102 y T n fp (n - 12) ∧ gpsO T F (n - 12) (G.length - g) G' K' fp = .ok ((G, K), q3) ∧ BeS y F G b dE CK ∧ FxC y F G g rows ∧ pp = 4 + bsm (K.take CK.length) ∧ 10 * (tlN CK - CK.length) + 4 ≤ pp ∧ 2 * CK.length ≤ tlN CK ∧ (∀ e, e ∈ enA CK → okE F e) ∧ grpO T F G K G.length 0 [] 4 = grpO T F G K (G.length - g) g CK pp) (fun _ a1 _ => G.length - a1.toNatClampNeg) ?_ _ _ _ ⟨rfl, Lv, 0, [], [], [], q2, 4, st0, 40000, 0, rfl, Nat.zero_le _, by show 0 = _; omega, rfl, by show 0 = _; omega, Sv, Sv2, hgp, Bv, ⟨Lv.rep hR, fun h hh => by rw [Nat.le_zero.mp hh]; exact v87, (Lv.1.ii (by decide)).trans h971, (Lv.1.ii (by decide)).trans h972⟩, rfl, Nat.le_refl _, Nat.le_refl _, fun e he => absurd he (by simp [enA]), rfl⟩
  rintro Q a0 a1 y ⟨rfl, y1, g, CK, G', K', fp, pp, st', b, dE, rfl, g1, lCK, lG, lK, Sy, Sy2, yg, By, Xy, yp, y4, yc, yok, yk⟩ ih
  obtain ⟨xr, x87, x971, x972⟩ := Xy
  have Ly := Sy.1.1
  have tg := tlN_ge CK
  unfold j_Opn_lookAtChunks_60
  rw [show stC (stC 96 0) 7 = 83 from rfl, show stC (stC 96 0) 11 = 87 from rfl, show stC 96 0 = 97 from rfl, show stC 96 1 = 102 from rfl, x972]
  by_cases cg : g < G.length
  · refine br_f (by (first | omega | (simp (disch := omega) only [Int32.le_iff_toInt_le, Int32.lt_iff_toInt_lt, z_eq, z_in, nI_toInt, z_cl, z_m1, z_sg, z_255, Int32.reduceToInt] <;> omega) | (simp only [Int32.le_iff_toInt_le, Int32.lt_iff_toInt_lt, z_eq, z_in, z_add, z_sub, z_mul, z_neg, z_nI, z_cl, z_sg, z_255, z_lit, Int32.reduceToInt] <;> omega))) ⟨by rw [show fN y 87 = 501 from Ly 87 (by decide)]; exact vp_in_nI (by omega) (by decide), ?_⟩
    obtain ⟨d, hd⟩ : ∃ d, G.length - g = d + 1 := ⟨G.length - g - 1, by omega⟩
    rw [hd] at yg yk
    have yg2 := yg
    simp only [gpsO] at yg2
    rw [rA_nI (by omega : g < 2 ^ 31), x87 g (Nat.le_refl _), nI_1]
    refine r_vrd so2 Sy2 (fun e z z1 z2 z3 => ?_) (fun r q z z1 z2 Sz w1 w2 => ?_)
    · unfold nm4 at yg2; rw [z1] at yg2; cases yg2
    have en : nm4 T 2000 16 (n - 12) fp = (if 2000 < r then .error 16 else .ok (r, q)) := by unfold nm4; rw [z1]
    by_cases c2 : 2000 < r
    · rw [en, if_pos c2] at yg2; cases yg2
    rw [en, if_neg c2] at yg2
    simp only at yg2
    by_cases c0 : r = 0
    · rw [if_pos c0] at yg2; cases yg2
    rw [if_neg c0] at yg2
    cases etd : tdsO T F (n - 12) (ncol F) 0 K' q with
    | error e => rw [etd] at yg2; cases yg2
    | ok w =>
      obtain ⟨K1, qg⟩ := w
      rw [etd] at yg2
      simp only at yg2
      obtain ⟨t3, t4, -⟩ := tdsO_ok hT _ _ _ _ _ _ etd Sz.le.1
      obtain ⟨gp1, -⟩ := gpsO_pre hT _ _ _ _ _ _ _ yg2 t4
      have er : G.getD g 0 = r := by
        have := pre_at (d := 0) gp1
        rw [lG] at this
        exact this
      have sg := smN_take (G := G) (g := g) cg
      rw [er] at sg
      rw [lN_i, nI_add, ← sg]
      refine ⟨by rw [z2.len, show fN y 87 = 501 from Ly 87 (by decide)]; exact vp_in_nI (by omega) (by decide), nm_e ?_⟩
      have fu : Fg (fun a k => a = 102 ∧ (k = 1 ∨ k = 3)) no2 no2 (fun a => a = 87) no1 y (setA z 87 (nI (g + 1)) (nI (smN (G.take (g + 1))))) := Fg.trans (z2.mono (fun _ _ w => w) (fun _ _ w => w) (fun _ _ w => w) (fun _ w => w.elim) (fun _ w => w)) (Fg.a rfl)
      have u87 : ∀ h, h ≤ g + 1 → fA (setA z 87 (nI (g + 1)) (nI (smN (G.take (g + 1))))) 87 h = nI (smN (G.take h)) := fun h hh => by
        by_cases e : h = g + 1
        · rw [e]; exact gA_on (by omega)
        · rw [gA_off (by omega) e, z2.aa id]; exact x87 h (by omega)
      have Su2 : Sr 102 (setA z 87 (nI (g + 1)) (nI (smN (G.take (g + 1))))) T n q (n - 12) := Sz.a (by decide)
      generalize setA z 87 (nI (g + 1)) (nI (smN (G.take (g + 1)))) = u at *
      have Lu : FrLC y u := FrLC.of fu (fun o k z => Or.inr (Or.inl z)) (fun _ _ z => z) (fun _ _ z => z) (fun a z => by have : a = 87 := z; omega) (fun a z => z.elim)
      have Su : Sr 104 u T n pp st' := Sy.cg fu (by decide) (by decide) (by decide) (by decide)
      obtain ⟨b1, b2, b3, b4⟩ := By
      have Bu : BeS u F G b dE CK := ⟨b1.fr fu (by decide) (by decide) (by decide) (by decide) (by decide) (fun i _ => by rw [fu.aa (by decide)]) (by decide) id, b2.fr fu (fun r z => Or.inr (Or.inl z)) (fun _ => id), (fu.ii (by decide)).trans b3, (fu.ii (by decide)).trans b4⟩
      have Xu : FxC u F G (g + 1) rows := ⟨Lu.rep xr, u87, (fu.ii (by decide)).trans x971, (fu.ii (by decide)).trans x972⟩
      have yk2 : grpO T F G K (d + 1) g CK pp = (match cksO T F K (G.getD g 0) g (ncol F) 0 CK [] pp with
        | .error z => .error z
        | .ok (CK', q) => grpO T F G K d (g + 1) CK' q) := rfl
      refine k_colsO (rows := rows) (G' := G' ++ [r]) (K0 := K') (K1 := K1) Su Su2 hw cg (by omega) (by rw [List.length_append, lG]; rfl) hN lCK lK etd (by rw [show G.length - (g + 1) = d by omega]; exact yg2) hKb Bu Xu hsm yp y4 yc yok (fun zz w h1 w1 w2 w3 w4 w5 => pe zz w (by rw [yk, yk2, h1]) (y1.trans (Lu.trans w1)) w2 w3 w4 w5) (fun CK2 q' w b' dE' sw h1 w1 Sw Sw2 w2 Bw Xw w3 w4 w5 w6 => ?_)
      exact ih _ _ _ ⟨rfl, y1.trans (Lu.trans w1), g + 1, CK2, G' ++ [r], K1, qg, q', sw, b', dE', rfl, by omega, w2, by rw [List.length_append, lG]; rfl, by rw [(tdsO_pre _ _ _ _ _ _ etd).2, lK, Nat.succ_mul], Sw, Sw2, by rw [show G.length - (g + 1) = d by omega]; exact yg2, Bw, Xw, w3, w4, w5, w6, by rw [yk, yk2, h1, show G.length - (g + 1) = d by omega]⟩ (by rw [nI_clamp (by omega), nI_clamp (by omega)]; omega)
  · have eg : g = G.length := by omega
    subst eg
    obtain ⟨b1, b2, b3, b4⟩ := By
    have e4 := b1.1
    have eE := b1.2.1
    rw [Nat.sub_self] at yk
    have cl : CK.length = K.length := by rw [lCK, kl, Nat.mul_comm]
    have bm := bsm_le (K := K) (w := CK.length)
    refine br_t (by (first | omega | (simp (disch := omega) only [Int32.le_iff_toInt_le, Int32.lt_iff_toInt_lt, z_eq, z_in, nI_toInt, z_cl, z_m1, z_sg, z_255, Int32.reduceToInt] <;> omega) | (simp only [Int32.le_iff_toInt_le, Int32.lt_iff_toInt_lt, z_eq, z_in, z_add, z_sub, z_mul, z_neg, z_nI, z_cl, z_sg, z_255, z_lit, Int32.reduceToInt] <;> omega))) ⟨by rw [e4, show fN y 83 = 11001 from Ly 83 (by decide)]; exact vp_in_nI (by omega) (by decide), nm_e ?_⟩
    rw [e4, show vp_nar .byte 0 = 0 from rfl]
    have fu : Fg no2 no2 no2 (fun a => a = 83) no1 y (setA y 83 (nI (enA CK).length) 0) := Fg.a rfl
    have u83 : ∀ i, i < (enA CK).length → fA (setA y 83 (nI (enA CK).length) 0) 83 i = fA y 83 i := fun i hi => gA_off (by omega) (by omega)
    have u83b : fA (setA y 83 (nI (enA CK).length) 0) 83 (enA CK).length = 0 := gA_on (by omega)
    generalize setA y 83 (nI (enA CK).length) 0 = u at *
    refine k_lookAt (fun r hr => (fu.len r).trans (Ly r hr)) (fun w w1 w2 w3 w4 => ?_)
    have fw : Fg no2 no2 no2 (fun a => a = 83 ∨ a = 98) no1 y w := Fg.trans (fu.mono (fun _ _ z => z) (fun _ _ z => z) (fun _ _ z => z) (fun _ z => Or.inl z) (fun _ z => z)) (w1.mono (fun _ _ z => z) (fun _ _ z => z) (fun _ _ z => z) (fun _ z => Or.inr z) (fun _ z => z))
    have Lw : FrLC y w := FrLC.of fw (fun _ _ z => z.elim) (fun _ _ z => z) (fun _ _ z => z) (fun a z => by omega) (fun a z => z.elim)
    refine pk CK pp w yk (y1.trans Lw) ⟨Lw.rep xr, hw, (fw.ii id).trans x971, (fw.ii id).trans x972, fun h hh => by rw [fw.aa (by decide)]; exact x87 h hh, lCK, hN, hsm, hG, cl.symm, yok, by omega, yc, ?_, b, dE, b1.fr fw id id id id (by decide) (fun i hi => by rw [w1.aa (by decide)]; exact u83 i hi) (by decide) id, b2.fr fw (fun r z => by omega) (fun _ => id), (fw.ii id).trans b3, (fw.ii id).trans b4⟩ (fun k hk => ?_)
    · rw [w1.aa (by decide)]; exact u83b
    · have : k = 0 ∨ k = 1 ∨ k = 2 := by omega
      rcases this with rfl | rfl | rfl
      · exact w2
      · exact w3
      · exact w4
end
