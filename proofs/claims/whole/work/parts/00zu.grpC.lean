/-! the class reads a RECORD: groups -/
theorem fdF_of {F : List SFd} {g : Int32} {nm : List Int32} {f : Nat} (hw : WfS F) (hf : f < F.length) (e1 : fPa F f = g) (e2 : fNm F f = nm) : fdF F g nm = nI f := by
  have hF := hw.1
  unfold fdF
  rcases (fnd_is : fnd (fun f => decide (fPa F f = g ∧ fNm F f = nm)) F.length = -1 ∨ _) with z | ⟨h, h1, h2, h3⟩
  · have := (fnd_some (by omega)).mp z f hf
    exact absurd ⟨e1, e2⟩ (of_decide_eq_false this)
  · have h3 := of_decide_eq_true h3
    rw [h2]
    rcases Nat.lt_trichotomy f h with c | c | c
    · exact absurd (e2.trans h3.2.symm) (hw.2.2.2.2.2.2 f h c h1 (e1.trans h3.1.symm))
    · rw [c]
    · exact absurd (h3.2.trans e2.symm) (hw.2.2.2.2.2.2 h f c hf (h3.1.trans e1.symm))
theorem c_firstIn {post : Int32 → St → Prop} {x : St} {s N : Nat} {g : Int32} (hN : N ≤ 128) (hg : gOk N g) (p : post (nI (fG g)) x) : wp_Sch_firstIn post s g x := by
  unfold wp_Sch_firstIn
  unfold fG at p
  rcases hg with rfl | ⟨f, hf, rfl⟩
  · exact bn_t rfl p
  · rw [if_neg (nI_nm1 (by omega)), nI_clamp (by omega)] at p
    exact bn_f (nI_nm1 (by omega)) (by rw [nI_1]; exact p)
theorem c_pastOf {post : Int32 → St → Prop} {x : St} {s : Nat} {g : Int32} {F : List SFd} (hs : SchId s) (hL : LC x) (hw : WfS F) (h : RepC x s F) (hg : gOk F.length g) (p : post (nI (pG F g)) x) : wp_Sch_pastOf post s g x := by
  have hF := hw.1
  unfold wp_Sch_pastOf
  unfold pG at p
  rcases hg with rfl | ⟨f, hf, rfl⟩
  · rw [if_pos rfl] at p
    exact bn_t rfl (by rw [h.1]; exact p)
  · rw [if_neg (nI_nm1 (by omega)), nI_clamp (by omega)] at p
    refine bn_f (nI_nm1 (by omega)) ⟨by rw [hL.s hs (by decide) (by decide)]; exact vp_in_nI (by show _ < 128; omega) (by decide), ?_⟩
    rw [rA_nI (by omega), (h.2.2.2.1 f hf).2.2.2.2.2.2.1]
    exact p
theorem pFld_end {T : Nat → Int32} {n : Nat} {F : List SFd} {P : PGr} {g : Int32} {p d k fr : Nat} {L : List SNd} (c : skip T n k < n ∧ T (skip T n k) = 125) : pFld T n F P g p (d + 1) k fr true L = pEnd F g (skip T n k) fr L := by
  simp only [pFld]
  rw [if_pos ⟨trivial, c⟩]
theorem eFld_end {T : Nat → Int32} {n : Nat} {F : List SFd} {P : PGr} {Q : EGr} {g : Int32} {p d k fr r : Nat} {L : List SNd} (c : skip T n k < n ∧ T (skip T n k) = 125) : eFld T n F P Q g p (d + 1) k fr true L r = misE F (fcO F g fr) (pG F g) r g := by
  simp only [eFld]
  rw [if_pos ⟨trivial, c⟩]
theorem pFld_sk {T : Nat → Int32} {n : Nat} {F : List SFd} {P : PGr} {g : Int32} {p d k fr : Nat} {b : Bool} {L : List SNd} : pFld T n F P g p (d + 1) (skip T n k) fr b L = pFld T n F P g p (d + 1) k fr b L := by
  simp only [pFld]
  rw [skip_skip]
theorem eFld_sk {T : Nat → Int32} {n : Nat} {F : List SFd} {P : PGr} {Q : EGr} {g : Int32} {p d k fr r : Nat} {b : Bool} {L : List SNd} : eFld T n F P Q g p (d + 1) (skip T n k) fr b L r = eFld T n F P Q g p (d + 1) k fr b L r := by
  simp only [eFld]
  rw [skip_skip]
def okR (e0 t0 : Nat) (q : Nat) (T : Nat → Int32) (n : Nat) (F : List SFd) (P : PGr) (Q : EGr) (s p f : Nat) (dep : Nat) (SV : (St → Prop) → Nat → Int32 → Int32 → Int32 → St → Prop) : Prop := ∀ (post : St → Prop) (x : St) (k : Nat) (L : List SNd) (r : Nat) (E : List SEn) (t : Nat), RkC e0 t0 x q T n F s k E t → r < 128 → (∀ y, outC e0 t0 x y q T n F s k (pVals T n F P k p f L) (E ++ eVals T n F P Q k p f L r) → post y) → SV post 36 (nI f) (nI r) (nI dep) x
theorem d_group {e0 t0 : Nat} {q : Nat} {T : Nat → Int32} {n : Nat} {F : List SFd} {P : PGr} {Q : EGr} {s p dep : Nat} {g : Int32} {SG SO SV : (St → Prop) → Nat → Int32 → Int32 → Int32 → St → Prop} (hs : SchId s) (hw : WfS F) (hq : skRow q) (hn : n ≤ 4000) (hg : gOk F.length g) (hdep : dep ≤ 16) (hR : ∀ f, f < F.length → fPa F f = g → okR e0 t0 q T n F P Q s p f dep SV) {post : St → Prop} {x : St} {k r t : Nat} {E : List SEn} {L : List SNd} (h : RkC e0 t0 x q T n F s k E t) (hr : r < 128)
    (pq : ∀ y, outC e0 t0 x y q T n F s k (if skip T n k < n ∧ T (skip T n k) = 123 then pFld T n F P g p 200 (skip T n k + 1) 0 true L else (nI (skip T n k), skip T n k, L)) (E ++ eFld T n F P Q g p 200 (skip T n k + 1) 0 true L r) → post y) : wb_Rec_readGroup post SG SO SV 36 g (nI r) (nI dep) x := by
  have hF := hw.1
  have hC := hw.2.1
  have hv := h.2.1
  have hk := h.1.2.2.2
  have hs1 := @skip_le T n k hk
  have hg1 := skip_ge T n k
  have hpG := pG_le hw hg
  generalize hRes : (if skip T n k < n ∧ T (skip T n k) = 123 then pFld T n F P g p 200 (skip T n k + 1) 0 true L else (nI (skip T n k), skip T n k, L)) = Res at *
  generalize hEE : E ++ eFld T n F P Q g p 200 (skip T n k + 1) 0 true L r = EE at *
  have r13 : ∀ y, FrZ e0 t0 x y → fR y 36 13 = some 10 := fun y g1 => by show y.2.2.1 36 13 = _; rw [g1.2.2.1]; exact hv.2.2.1
  have r14 : ∀ y, FrZ e0 t0 x y → fR y 36 14 = some s := fun y g1 => by show y.2.2.1 36 14 = _; rw [g1.2.2.1]; exact hv.2.2.2.1
  -- a fault was found
  have bad2 : ∀ y, FrZ e0 t0 x y → Res.1 ≠ -1 → (∃ j, ScC y q T n j Res.1) → ∀ l4 l5 l6 l7, j_Rec_readGroup_234 post SG SO SV 36 g (nI r) (nI dep) l4 l5 l6 l7 y := by
    rintro y g1 g2 ⟨j, g3⟩ l4 l5 l6 l7
    have ne : fI y 10 3 ≠ -1 := by rw [g3.2.2.1]; exact g2
    unfold j_Rec_readGroup_234
    refine ⟨10, r13 y g1, d_needSign_i ne ⟨10, r13 y g1, c_good ?_⟩⟩
    rw [if_neg ne]
    exact br_t rfl (pq y ⟨g1, Or.inr ⟨g2, j, g3⟩⟩)
  have bad : ∀ y, FrZ e0 t0 x y → Res.1 ≠ -1 → (∃ j, ScC y q T n j Res.1) → ∀ l4 l5 l6 l7, j_Rec_readGroup_190 post SG SO SV 36 g (nI r) (nI dep) l4 l5 l6 l7 y := by
    rintro y g1 g2 g3 l4 l5 l6 l7
    unfold j_Rec_readGroup_190
    refine ⟨10, r13 y g1, c_good ?_⟩
    rw [if_neg (by obtain ⟨j, g3⟩ := g3; rw [g3.2.2.1]; exact g2)]
    exact br_t rfl (bad2 y g1 g2 g3 _ _ _ _)
  -- no more fields
  have fin : ∀ y k2 fr L2 E2 t2, FrZ e0 t0 x y → RkC e0 t0 y q T n F s k2 E2 t2 → frV F g fr → k < k2 → Res = (if missF F g fr F.length = true then (nI (skip T n k2), skip T n k2, L2) else if skip T n k2 < n ∧ T (skip T n k2) = 125 then (-1, skip T n k2 + 1, L2) else (nI (skip T n k2), skip T n k2, L2)) → EE = E2 ++ misE F (fcO F g fr) (pG F g) r g → ∀ l6 l7, j_Rec_readGroup_190 post SG SO SV 36 g (nI r) (nI dep) (nI (fcO F g fr)) (nI (pG F g)) l6 l7 y := by
    intro y k2 fr L2 E2 t2 g1 g2 g3 g4 g5 g6 l6 l7
    have hk2 := g2.1.2.2.2
    have hs2 := @skip_le T n k2 hk2
    have hg2 := skip_ge T n k2
    have nn : ¬ nI (skip T n k2) = -1 := nI_nm1 (by omega)
    have hfc := fcO_le hw hg g3
    have em : missF F g (fcO F g fr) (pG F g) = missF F g fr F.length := miss_fc hw hg g3 hpG (Nat.le_refl _) (fun h h1 h2 => ⟨fun _ => h1, fun _ => (kid_in hw hg h1 h2).2⟩)
    unfold j_Rec_readGroup_190
    refine ⟨10, r13 y g1, c_good ?_⟩
    rw [if_pos g2.1.2.2.1]
    refine br_f (by decide) (d_someRequired hs hw g2.2.1.1 g2.2.1.2.1 (r14 y g1) (by omega) hpG ?_)
    rw [em]
    by_cases c : missF F g fr F.length = true
    · rw [if_pos c] at g5 ⊢
      refine br_f (by decide) ⟨10, r13 y g1, c_next g2.1.1 g2.1.2.1 (by omega) ?_⟩
      have fz : FrZ e0 t0 x (setI y 10 2 (nI (skip T n k2))) := g1.trans FrT.i.z
      have sz := g2.1.go hs2
      refine ⟨10, r13 _ fz, 10, r13 _ fz, ?_⟩
      rw [sz.2.1]
      refine c_refuse ?_
      rw [if_pos sz.2.2.1]
      exact bad2 _ (fz.trans FrT.i.z) (by rw [g5]; exact nn) ⟨_, by rw [g5]; exact sz.ill⟩ _ _ _ _
    · rw [if_neg c] at g5 ⊢
      refine br_t rfl ?_
      unfold j_Rec_readGroup_234
      refine ⟨10, r13 y g1, d_needSign g2.1 (by decide) (fun a b X x1 x2 => ?_) (fun a X x1 x2 => ?_)⟩
      · rw [if_pos ⟨a, b⟩] at g5
        have h3 := g2.t hs x1.t x2 (by omega)
        refine ⟨10, h3.2.1.2.2.1, c_good ?_⟩
        rw [if_pos x2.2.2.1]
        have hl := @misE_len F (fcO F g fr) (pG F g) r g
        have hcl := cB_le F (pG F g)
        obtain ⟨u1, u2, u3, u4, u5, u6⟩ := h3
        refine br_f (by decide) (d_enterMissing (e0 := e0) (t0 := t0) hs hw u2 u5 (by omega) hr hg hfc.1 hpG (fun z y1 y2 y3 => pq z ⟨(g1.trans x1.t.z).trans y1, Or.inl ?_⟩))
        rw [g5, g6]
        refine ⟨rfl, by show k < skip T n k2 + 1; omega, t2, u1.z hq y1 y2, y3, u3, ?_, ?_, u6.1, by rw [tx_app, tx_mis]; exact u6.2⟩
        · rw [List.length_append, hl]
          have := g2.2.2.2.1
          show _ ≤ 10000 + 64 * (skip T n k2 + 1)
          omega
        · rw [List.length_append]; omega
      · rw [if_neg a] at g5
        refine ⟨10, (g2.2.1.t hs x1.t).2.2.1, c_good ?_⟩
        rw [if_neg (by rw [x2.2.2.1]; exact nn)]
        refine br_t rfl (pq X ⟨g1.trans x1.t.z, Or.inr ?_⟩)
        rw [g5]
        exact ⟨nn, _, x2⟩
  -- the loop
  have loop : ∀ l4 l6 l7 y, (∃ i, i ≤ 129 ∧ nI i = l7 ∧ FrZ e0 t0 x y ∧ ((∃ d k2 fr b L2 E2 t2, 1 = l6 ∧ nI (fcO F g fr) = l4 ∧ 200 = d + i ∧ i ≤ fr ∧ fr ≤ F.length ∧ frV F g fr ∧ k < k2 ∧ RkC e0 t0 y q T n F s k2 E2 t2 ∧ ¬ (b = true ∧ skip T n k2 < n ∧ T (skip T n k2) = 125) ∧ Res = pFld T n F P g p d k2 fr b L2 ∧ EE = E2 ++ eFld T n F P Q g p d k2 fr b L2 r) ∨ (0 = l6 ∧ ∃ k2 fr L2 E2 t2, nI (fcO F g fr) = l4 ∧ RkC e0 t0 y q T n F s k2 E2 t2 ∧ frV F g fr ∧ k < k2 ∧ Res = (if missF F g fr F.length = true then (nI (skip T n k2), skip T n k2, L2) else if skip T n k2 < n ∧ T (skip T n k2) = 125 then (-1, skip T n k2 + 1, L2) else (nI (skip T n k2), skip T n k2, L2)) ∧ EE = E2 ++ misE F (fcO F g fr) (pG F g) r g) ∨ (0 = l6 ∧ Res.1 ≠ -1 ∧ ∃ j, ScC y q T n j Res.1))) → ∃ m, wl_Rec_readGroup_81 post SG SO SV m 36 g (nI r) (nI dep) l4 (nI (pG F g)) l6 l7 y := by
    intro l4 l6 l7 y hI
    refine lp_Rec_readGroup_81 (fun o l1 l2 l3 l4 l5 l6 l7 y => 36 = o ∧ g = l1 ∧ nI r = l2 ∧ nI dep = l3 ∧ nI (pG F g) = l5 ∧ ∃ i, i ≤ 129 ∧ nI i = l7 ∧ FrZ e0 t0 x y ∧ ((∃ d k2 fr b L2 E2 t2, 1 = l6 ∧ nI (fcO F g fr) = l4 ∧ 200 = d + i ∧ i ≤ fr ∧ fr ≤ F.length ∧ frV F g fr ∧ k < k2 ∧ RkC e0 t0 y q T n F s k2 E2 t2 ∧ ¬ (b = true ∧ skip T n k2 < n ∧ T (skip T n k2) = 125) ∧ Res = pFld T n F P g p d k2 fr b L2 ∧ EE = E2 ++ eFld T n F P Q g p d k2 fr b L2 r) ∨ (0 = l6 ∧ ∃ k2 fr L2 E2 t2, nI (fcO F g fr) = l4 ∧ RkC e0 t0 y q T n F s k2 E2 t2 ∧ frV F g fr ∧ k < k2 ∧ Res = (if missF F g fr F.length = true then (nI (skip T n k2), skip T n k2, L2) else if skip T n k2 < n ∧ T (skip T n k2) = 125 then (-1, skip T n k2 + 1, L2) else (nI (skip T n k2), skip T n k2, L2)) ∧ EE = E2 ++ misE F (fcO F g fr) (pG F g) r g) ∨ (0 = l6 ∧ Res.1 ≠ -1 ∧ ∃ j, ScC y q T n j Res.1))) (fun _ _ _ _ _ _ _ l7 _ => 200 - l7.toNatClampNeg) ?_ _ _ _ _ _ _ _ _ _ ⟨rfl, rfl, rfl, rfl, rfl, hI⟩
    clear hI y l4 l6 l7
    rintro R o l1 l2 l3 l4 l5 l6 l7 y ⟨rfl, rfl, rfl, rfl, rfl, i, hi, rfl, g1, gg⟩ ih
    unfold j_Rec_readGroup_81
    rcases gg with ⟨d, k2, fr, b, L2, E2, t2, rfl, rfl, hd, hifr, hfr, hfv, hk02, g2, nb, g3, g4⟩ | ⟨rfl, k2, fr, L2, E2, t2, rfl, g2, hfv, hk02, g3, g4⟩ | ⟨rfl, g2, g3⟩
    · obtain ⟨d, rfl⟩ : ∃ d', d = d' + 1 := ⟨d - 1, by omega⟩
      have hk2 := g2.1.2.2.2
      have hs2 := @skip_le T n k2 hk2
      have hg2 := skip_ge T n k2
      have nn : ¬ nI (skip T n k2) = -1 := nI_nm1 (by omega)
      have hfc := fcO_le hw hg hfv
      have hwl := @wln_le T n (skip T n k2) hs2
      simp only [pFld] at g3
      simp only [eFld] at g4
      rw [if_neg nb] at g3 g4
      refine br_f (by (first | omega | (simp (disch := omega) only [Int32.le_iff_toInt_le, Int32.lt_iff_toInt_lt, z_eq, z_in, nI_toInt, z_cl, z_m1, z_sg, z_255, Int32.reduceToInt] <;> omega) | (simp only [Int32.le_iff_toInt_le, Int32.lt_iff_toInt_lt, z_eq, z_in, z_add, z_sub, z_mul, z_neg, z_nI, z_cl, z_sg, z_255, z_lit, Int32.reduceToInt] <;> omega))) (br_f (by decide) (d_readName hs hw g2.1 g2.2.1 (by omega) hpG (fun f a1 a2 a3 a4 a5 a6 X x1 x2 => ?_) (fun a1 X j x1 x2 => ?_)))
      · have ef := fdF_of hw (by omega) a4 a5
        have cf : (nI f).toNatClampNeg = f := nI_clamp (by omega)
        have hfrf : fr ≤ f := (fcO_iff hw hg hfv (by omega) a4).mp a2
        have hms : missF F g fr f = false := by rw [← miss_fc hw hg hfv (show f ≤ F.length by omega) (show f ≤ F.length by omega) (fun _ _ _ => Iff.rfl)]; exact a6
        rw [ef, cf, if_neg (by
          rintro (u | u | u | u)
          · omega
          · exact nI_nm1 (by omega) u
          · omega
          · rw [hms] at u; exact absurd u (by decide))] at g3
        rw [ef, cf] at g4
        generalize hk3 : skip T n k2 + wln T n (skip T n k2) = k3 at *
        have hs3 := @skip_le T n k3 (by omega)
        have hg3 := skip_ge T n k3
        have h3 := g2.t hs x1 x2 (by omega)
        refine ⟨10, h3.2.1.2.2.1, d_needSign x2 (by decide) (fun b1 b2 Z z1 z2 => ?_) (fun b1 Z z1 z2 => ?_)⟩
        · rw [if_neg (fun u => u ⟨b1, b2⟩)] at g3
          have h4 := h3.t hs z1.t z2 (by omega)
          refine ⟨10, h4.2.1.2.2.1, c_good ?_⟩
          rw [if_pos z2.2.2.1]
          have hl := @misE_len F (fcO F g fr) f r g
          have hcl := cB_le F f
          obtain ⟨u1, u2, u3, u4, u5, u6⟩ := h4
          refine bn_f (by decide) (d_enterMissing (e0 := e0) (t0 := t0) hs hw u2 u5 (by omega) hr hg hfc.1 (by omega) (fun W w1 w2 w3 => ?_))
          have zW := ((g1.trans x1.z).trans z1.t.z).trans w1
          have h5 : RkC e0 t0 W q T n F s (skip T n k3 + 1) (E2 ++ misE F (fcO F g fr) f r g) t2 := by
            refine ⟨u1.z hq w1 w2, w3, u3, ?_, ?_, u6.1, by rw [tx_app, tx_mis]; exact u6.2⟩
            · rw [List.length_append, hl]
              have := g2.2.2.2.1
              omega
            · rw [List.length_append]; omega
          refine hR f (by omega) a4 _ W _ L2 r _ t2 h5 hr (fun V o => ?_)
          have zV := zW.trans o.1
          have lV : LC V := hv.1.z zV
          have rV : RepC V s F := hv.2.1.z hs zV
          refine ⟨s, r14 V zV, by rw [lV.s hs (by decide) (by decide)]; exact vp_in_nI (by show _ < 128; omega) (by decide), nm_e ⟨10, r13 V zV, c_good ?_⟩⟩
          rw [rA_nI (by omega), (rV.2.2.2.1 f (by omega)).2.2.2.2.2.2.1]
          have efc : nI (fcO F g (f + 1)) = nI (pst (fPa F) f F.length) := by unfold fcO; rw [if_neg (by omega)]; rfl
          have efc2 : fcO F g (f + 1) = pB F f := by unfold fcO; rw [if_neg (by omega)]; rfl
          have hfv2 : frV F g (f + 1) := Or.inr ⟨f, rfl, by omega, a4⟩
          generalize hVr : pVals T n F P (skip T n k3 + 1) p f L2 = v at *
          unfold j_Rec_readGroup_181 j_Rec_readGroup_182
          rcases o.2 with ⟨o1, o2, t3, o3⟩ | ⟨o1, j, o2⟩
          · rw [if_neg (fun u => u o1)] at g3
            rw [if_pos o3.1.2.2.1]
            have hk4 := o3.1.2.2.2
            have hs4 := @skip_le T n v.2.1 hk4
            have hg4 := skip_ge T n v.2.1
            refine br_f (by decide) ⟨10, r13 V zV, d_takeSign o3.1 (by decide) (fun e1 e2 X2 y1 y2 => br_f (by decide) ?_) (fun e1 X2 y1 y2 => br_t rfl ?_)⟩
            · rw [if_neg (fun z => by rw [e2] at z; exact absurd z.2 (by decide)), if_pos ⟨e1, e2⟩] at g3
              rw [if_pos ⟨e1, e2⟩] at g4
              rw [nI_1]
              refine ih _ _ _ _ _ _ _ _ _ ⟨rfl, rfl, rfl, rfl, rfl, i + 1, by omega, rfl, zV.trans y1.z, Or.inl ⟨d, _, f + 1, false, v.2.2, _, t3, rfl, efc, by omega, by omega, by omega, hfv2, by omega, o3.t hs y1 y2 (by omega), fun z => absurd z.1 (by decide), g3, ?_⟩⟩ ?_
              · rw [g4, List.append_assoc, List.append_assoc, List.append_assoc]
              · rw [nI_clamp (by omega), nI_clamp (by omega)]
                omega
            · rw [if_neg e1] at g4
              rw [nI_1]
              refine ih _ _ _ _ _ _ _ _ _ ⟨rfl, rfl, rfl, rfl, rfl, i + 1, by omega, rfl, zV.trans y1.z, Or.inr (Or.inl ⟨rfl, skip T n v.2.1, f + 1, v.2.2, _, t3, efc, o3.t hs y1 y2 (by omega), hfv2, by omega, ?_, ?_⟩)⟩ ?_
              · rw [skip_skip, g3]
                unfold pEnd
                by_cases c9 : skip T n v.2.1 < n ∧ T (skip T n v.2.1) = 125
                · rw [if_pos c9, if_pos c9]
                · rw [if_neg c9, if_neg e1, if_neg c9]
                  split <;> rfl
              · rw [g4, efc2, List.append_assoc, List.append_assoc, List.append_assoc]
              · rw [nI_clamp (by omega), nI_clamp (by omega)]
                omega
          · rw [if_pos o1] at g3
            rw [if_neg (by rw [o2.2.2.1]; exact o1)]
            refine br_t rfl ?_
            rw [nI_1]
            refine ih _ _ _ _ _ _ _ _ _ ⟨rfl, rfl, rfl, rfl, rfl, i + 1, by omega, rfl, zV, Or.inr (Or.inr ⟨rfl, by rw [g3]; exact o1, j, by rw [g3]; exact o2⟩)⟩ ?_
            rw [nI_clamp (by omega), nI_clamp (by omega)]
            omega
        · rw [if_pos b1] at g3
          have nn3 : ¬ nI (skip T n k3) = -1 := nI_nm1 (by omega)
          have zZ := (g1.trans x1.z).trans z1.t.z
          refine ⟨10, r13 Z zZ, c_good ?_⟩
          rw [if_neg (by rw [z2.2.2.1]; exact nn3)]
          exact bn_t rfl (pq Z ⟨zZ, Or.inr ⟨by rw [g3]; exact nn3, _, by rw [g3]; exact z2⟩⟩)
      · have er : Res = (nI (skip T n k2), skip T n k2, L2) := by
          rw [g3]
          refine if_pos ?_
          rcases a1 with a1 | a1
          · exact Or.inl a1
          · rcases (fnd_is : fdF F g (rowL T (skip T n k2) (wln T n (skip T n k2))) = -1 ∨ _) with z | ⟨f, f1, f2, f3⟩
            · exact Or.inr (Or.inl z)
            · have f3 := of_decide_eq_true f3
              have f2 : fdF F g (rowL T (skip T n k2) (wln T n (skip T n k2))) = nI f := f2
              rw [f2, nI_clamp (by omega)]
              rcases Nat.lt_or_ge f fr with c | c
              · exact Or.inr (Or.inr (Or.inl c))
              · refine Or.inr (Or.inr (Or.inr ?_))
                rw [← miss_fc hw hg hfv (show f ≤ F.length by omega) (show f ≤ F.length by omega) (fun _ _ _ => Iff.rfl)]
                exact a1 f ((fcO_iff hw hg hfv f1 f3.1).mpr c) (kid_in hw hg f1 f3.1).2 f3.1 f3.2
        have zX := g1.trans x1.z
        have nx : fI X 10 3 ≠ -1 := by rw [x2.2.2.1]; exact nn
        refine ⟨10, r13 X zX, d_needSign_i nx ⟨10, r13 X zX, c_good ?_⟩⟩
        rw [if_neg nx]
        exact bn_t rfl (pq X ⟨zX, Or.inr ⟨by rw [er]; exact nn, _, by rw [er]; exact x2⟩⟩)
    · exact ⟨fun _ => fin y k2 fr L2 E2 t2 g1 g2 hfv hk02 g3 g4 _ _, fun _ => br_t rfl (fin y k2 fr L2 E2 t2 g1 g2 hfv hk02 g3 g4 _ _)⟩
    · exact ⟨fun _ => bad y g1 g2 g3 _ _ _ _, fun _ => br_t rfl (bad y g1 g2 g3 _ _ _ _)⟩
  unfold wb_Rec_readGroup
  refine br_t (by (first | omega | (simp (disch := omega) only [Int32.le_iff_toInt_le, Int32.lt_iff_toInt_lt, z_eq, z_in, nI_toInt, z_cl, z_m1, z_sg, z_255, Int32.reduceToInt] <;> omega) | (simp only [Int32.le_iff_toInt_le, Int32.lt_iff_toInt_lt, z_eq, z_in, z_add, z_sub, z_mul, z_neg, z_nI, z_cl, z_sg, z_255, z_lit, Int32.reduceToInt] <;> omega))) ?_
  unfold j_Rec_readGroup_20 j_Rec_readGroup_75 j_Rec_readGroup_76
  refine ⟨10, hv.2.2.1, d_needSign h.1 (by decide) (fun a b Y f1 f2 => ?_) (fun a Y f1 f2 => ?_)⟩
  · rw [if_pos ⟨a, b⟩] at hRes
    have h1 := h.t hs f1.t f2 (by omega)
    have hk2 := f2.2.2.2
    have hs2 := @skip_le T n (skip T n k + 1) hk2
    have hg2 := skip_ge T n (skip T n k + 1)
    refine ⟨s, h1.2.1.2.2.2.1, c_firstIn hF hg ⟨s, h1.2.1.2.2.2.1, c_pastOf hs h1.2.1.1 hw h1.2.1.2.1 hg ⟨10, h1.2.1.2.2.1, c_good ?_⟩⟩⟩
    rw [if_pos f2.2.2.1]
    refine br_f (by decide) ⟨10, h1.2.1.2.2.1, c_next f2.1 f2.2.1 (by omega) ?_⟩
    have fx : FrT Y (setI Y 10 2 (nI (skip T n (skip T n k + 1)))) := FrT.i
    have h2 := h1.t hs fx (f2.go hs2) hg2
    have efc : fcO F g 0 = fG g := by unfold fcO; rw [if_pos rfl]
    by_cases c : skip T n (skip T n k + 1) < n ∧ T (skip T n (skip T n k + 1)) = 125
    · rw [if_pos c.1]
      refine br_t c.2 (loop _ _ _ _ ⟨0, by omega, rfl, f1.t.z.trans fx.z, Or.inr (Or.inl ⟨rfl, _, 0, L, E, t, by rw [efc], h2, Or.inl rfl, by omega, ?_, ?_⟩)⟩)
      · rw [skip_skip, ← hRes]
        refine (pFld_end (d := 199) c).trans ?_
        unfold pEnd
        rw [if_pos c]
      · rw [← hEE]
        exact congrArg _ (eFld_end (d := 199) c)
    · refine br_f (fun z => ?_) (loop _ _ _ _ ⟨0, by omega, rfl, f1.t.z.trans fx.z, Or.inl ⟨200, _, 0, true, L, E, t, rfl, by rw [efc], rfl, by omega, by omega, Or.inl rfl, by omega, h2, ?_, ?_, ?_⟩⟩)
      · by_cases c1 : skip T n (skip T n k + 1) < n
        · rw [if_pos c1] at z; exact c ⟨c1, z⟩
        · rw [if_neg c1] at z; exact absurd z (by decide)
      · rw [skip_skip]
        exact fun z => c z.2
      · rw [← hRes]
        exact (pFld_sk (d := 199)).symm
      · rw [← hEE]
        exact congrArg _ (eFld_sk (d := 199)).symm
  · rw [if_neg a] at hRes
    have nn : ¬ nI (skip T n k) = -1 := nI_nm1 (by omega)
    have vY := hv.t hs f1.t
    refine ⟨s, vY.2.2.2.1, c_firstIn hF hg ⟨s, vY.2.2.2.1, c_pastOf hs vY.1 hw vY.2.1 hg ⟨10, vY.2.2.1, c_good ?_⟩⟩⟩
    rw [if_neg (by rw [f2.2.2.1]; exact nn)]
    refine br_t rfl (loop _ _ _ _ ⟨0, by omega, rfl, f1.t.z, Or.inr (Or.inr ⟨rfl, by rw [← hRes]; exact nn, _, by rw [← hRes]; exact f2⟩)⟩)
