/-! the class reads a RECORD: rows of values -/
/-- reading at k, entries E, texts up to t; e0, t0: what was there before -/
def RkC (e0 t0 : Nat) (x : St) (q : Nat) (T : Nat → Int32) (n : Nat) (F : List SFd) (s k : Nat) (E : List SEn) (t : Nat) : Prop := ScC x q T n k (-1) ∧ RvC x F s E t ∧ t ≤ 60000 + k ∧ E.length ≤ 10000 + 64 * k ∧ e0 ≤ E.length ∧ t0 ≤ t ∧ t = tx E
def outC (e0 t0 : Nat) (x y : St) (q : Nat) (T : Nat → Int32) (n : Nat) (F : List SFd) (s k : Nat) (r : Int32 × Nat × List SNd) (E : List SEn) : Prop := FrZ e0 t0 x y ∧ ((r.1 = -1 ∧ k < r.2.1 ∧ ∃ t, RkC e0 t0 y q T n F s r.2.1 E t) ∨ (r.1 ≠ -1 ∧ ∃ j, ScC y q T n j r.1))
theorem RkC.t {e0 t0 : Nat} {x y : St} {q : Nat} {T : Nat → Int32} {n : Nat} {F : List SFd} {s k k' : Nat} {E : List SEn} {t : Nat} (hs : SchId s) (h : RkC e0 t0 x q T n F s k E t) (f : FrT x y) (z : ScC y q T n k' (-1)) (hk : k ≤ k') : RkC e0 t0 y q T n F s k' E t := by
  obtain ⟨h1, h2, h3, h4, h5, h6⟩ := h
  exact ⟨z, h2.t hs f, by omega, by omega, h5, h6⟩
theorem ScC.z {e0 t0 : Nat} {x y : St} {q : Nat} {T : Nat → Int32} {n k : Nat} {e : Int32} (hq : skRow q) (h : ScC x q T n k e) (f : FrZ e0 t0 x y) (g : ∀ k, fI y 10 k = fI x 10 k) : ScC y q T n k e := by
  refine ⟨?_, (g 2).trans h.2.1, (g 3).trans h.2.2.1, h.2.2.2⟩
  obtain ⟨a1, a2, a3, a4, a5, a6⟩ := h.1
  have sf := sk_far hq
  refine ⟨by show y.2.2.1 10 0 = _; rw [f.2.2.1]; exact a1, (g 1).trans a2, a3, by show n ≤ y.2.2.2.2.2 q; rw [f.2.2.2.2.2.2.2]; exact a4, by show y.2.2.2.2.2 q < _; rw [f.2.2.2.2.2.2.2]; exact a5, fun i hi => ?_⟩
  rw [show fA y q = fA x q from f.2.2.2.1 q (by omega)]
  exact a6 i hi
theorem d_needSign_i {post : St → Prop} {x : St} {v : Int32} (he : fI x 10 3 ≠ -1) (p : post x) : wp_Scn_needSign post 10 v x := by
  unfold wp_Scn_needSign
  refine c_good ?_
  rw [if_neg he]
  exact br_t rfl p
theorem d_takeSign {post : Int32 → St → Prop} {q : Nat} {v : Int32} {x : St} {T : Nat → Int32} {n k : Nat} {e : Int32} (h : ScC x q T n k e) (hv : 0 ≤ v)
    (p1 : skip T n k < n → T (skip T n k) = v → ∀ y, FrT x y → ScC y q T n (skip T n k + 1) e → post 1 y)
    (p0 : ¬ (skip T n k < n ∧ T (skip T n k) = v) → ∀ y, FrT x y → ScC y q T n (skip T n k) e → post 0 y) : wp_Scn_takeSign post 10 v x := by
  have hs := @skip_le T n k h.2.2.2
  have hn := h.1.2.2.1
  refine c_takeSign h.1 h.2.1 (Nat.le_trans h.2.2.2 hn) hv (fun a b => p1 a b _ FrT.i (h.go (by omega))) (fun a => p0 a _ FrT.i (h.go hs))
def okO (e0 t0 : Nat) (q : Nat) (T : Nat → Int32) (n : Nat) (F : List SFd) (P : PGr) (Q : EGr) (s p f : Nat) (dep : Nat) (SO : (St → Prop) → Nat → Int32 → Int32 → Int32 → St → Prop) : Prop := ∀ (post : St → Prop) (x : St) (k : Nat) (L : List SNd) (r : Nat) (E : List SEn) (t : Nat), RkC e0 t0 x q T n F s k E t → r < 128 → (∀ y, outC e0 t0 x y q T n F s k (pVal T n F P k p f L) (E ++ eVal T n F P Q k p f L r) → post y) → SO post 36 (nI f) (nI r) (nI dep) x
/-- [ values ] -/
theorem d_rows {e0 t0 : Nat} {q : Nat} {T : Nat → Int32} {n : Nat} {F : List SFd} {P : PGr} {Q : EGr} {s p f dep : Nat} {SG SO SV : (St → Prop) → Nat → Int32 → Int32 → Int32 → St → Prop} (hs : SchId s) (hw : WfS F) (hq : skRow q) (hn : n ≤ 4000) (hf : f < F.length) (hO : okO e0 t0 q T n F P Q s p f dep SO) {post : St → Prop} {x : St} {k r t : Nat} {E : List SEn} {L : List SNd} (h : RkC e0 t0 x q T n F s k E t) (hr : r < 128)
    (pq : ∀ y, outC e0 t0 x y q T n F s k (pVals T n F P k p f L) (E ++ eVals T n F P Q k p f L r) → post y) : wb_Rec_readValues post SG SO SV 36 (nI f) (nI r) (nI dep) x := by
  have hF := hw.1
  have hv := h.2.1
  have hk := h.1.2.2.2
  have hs1 := @skip_le T n k hk
  have hg1 := skip_ge T n k
  have vin : ∀ (Y : St) (j : Nat), LC Y → 2 ≤ j → j ≤ 12 → lenS j = 128 → vp_in (nI f) (fN Y (stC s j)) := fun Y j a b c d => by rw [a.s hs b c, d]; exact vp_in_nI (by omega) (by decide)
  unfold wb_Rec_readValues
  refine ⟨s, hv.2.2.2.1, vin x 2 hv.1 (by decide) (by decide) rfl, ?_⟩
  rw [rA_nI (by omega), (hv.2.1.2.2.2.1 f hf).1]
  by_cases c2 : fKd F f = 2
  · have e1 : pVals T n F P k p f L = if skip T n k < n ∧ T (skip T n k) = 91 then
      (if skip T n (skip T n k + 1) < n ∧ T (skip T n (skip T n k + 1)) = 93 then (-1, skip T n (skip T n k + 1) + 1, L) else pRow T n F P p f (n + 1) (skip T n k + 1) L)
      else (nI (skip T n k), skip T n k, L) := by unfold pVals; rw [if_pos c2]
    have e2 : eVals T n F P Q k p f L r = if skip T n (skip T n k + 1) < n ∧ T (skip T n (skip T n k + 1)) = 93 then misE F f (pB F f) r (fPa F f) else eRow T n F P Q p f (n + 1) (skip T n k + 1) L r := by unfold eVals; rw [if_pos c2]
    refine br_t c2 ⟨10, hv.2.2.1, d_needSign h.1 (by decide) (fun a b Y f1 f2 => ?_) (fun a Y f1 f2 => ?_)⟩
    · rw [if_pos ⟨a, b⟩] at e1
      have h1 := h.t hs f1.t f2 (by omega)
      have f1 := f1.t
      refine ⟨10, h1.2.1.2.2.1, c_good ?_⟩
      rw [if_pos f2.2.2.1]
      have hk2 := f2.2.2.2
      have hs2 := @skip_le T n (skip T n k + 1) hk2
      have hg2 := skip_ge T n (skip T n k + 1)
      refine bn_f (by decide) ⟨10, h1.2.1.2.2.1, d_takeSign f2 (by decide) (fun a b Z f3 f4 => br_f (by decide) ?_) (fun a Z f3 f4 => br_t rfl ?_)⟩
      · rw [if_pos ⟨a, b⟩] at e1 e2
        have h2 := h1.t hs f3 f4 (by omega)
        have hvZ := h2.2.1
        refine ⟨s, hvZ.2.2.2.1, vin Z 8 hvZ.1 (by decide) (by decide) rfl, s, hvZ.2.2.2.1, vin Z 4 hvZ.1 (by decide) (by decide) rfl, ?_⟩
        rw [rA_nI (by omega), rA_nI (by omega), (hvZ.2.1.2.2.2.1 f hf).2.2.2.2.2.2.1, (hvZ.2.1.2.2.2.1 f hf).2.2.1]
        have hpb := pB_le hf
        have hl := @misE_len F f (pB F f) r (fPa F f)
        have hcl := cB_le F (pB F f)
        have hC := hw.2.1
        obtain ⟨u1, u2, u3, u4, u5, u6⟩ := h2
        have gk : gOk F.length (fPa F f) := by
          rcases hw.2.2.1.2 f hf with z | ⟨g, g1, z⟩
          · exact Or.inl z
          · exact Or.inr ⟨g, by omega, z⟩
        refine d_enterMissing (e0 := e0) (t0 := t0) hs hw u2 u5 (by omega) hr gk (by omega) hpb (fun y y1 y2 y3 => pq y ⟨(f1.z.trans f3.z).trans y1, Or.inl ?_⟩)
        rw [e1, e2]
        refine ⟨rfl, by show k < skip T n (skip T n k + 1) + 1; omega, t, u1.z hq y1 y2, y3, u3, ?_, ?_, u6.1, by rw [tx_app, tx_mis]; exact u6.2⟩
        · rw [List.length_append, hl]
          obtain ⟨-, -, -, w4, -⟩ := h1
          show _ ≤ 10000 + 64 * (skip T n (skip T n k + 1) + 1)
          omega
        · rw [List.length_append]; omega
      · rw [if_neg a] at e1 e2
        have h2 := h1.t hs f3 f4 (by omega)
        rw [e1, e2] at pq
        clear e1 e2
        -- the loop
        have hpos : pRow T n F P p f (n + 1) (skip T n k + 1) L = pRow T n F P p f (n + 1) (skip T n (skip T n k + 1)) L ∧ eRow T n F P Q p f (n + 1) (skip T n k + 1) L r = eRow T n F P Q p f (n + 1) (skip T n (skip T n k + 1)) L r := by
          have ev : pVal T n F P (skip T n k + 1) p f L = pVal T n F P (skip T n (skip T n k + 1)) p f L := by unfold pVal; rw [skip_skip]
          have ee : eVal T n F P Q (skip T n k + 1) p f L r = eVal T n F P Q (skip T n (skip T n k + 1)) p f L r := by unfold eVal; rw [ev, skip_skip]
          constructor
          · show (if _ then _ else _) = (if _ then _ else _)
            rw [ev]
          · show _ ++ _ = _ ++ _
            rw [ev, ee]
        rw [hpos.1, hpos.2] at pq
        generalize hk3 : skip T n (skip T n k + 1) = k3 at *
        generalize hRes : pRow T n F P p f (n + 1) k3 L = Res at *
        generalize hEE : E ++ eRow T n F P Q p f (n + 1) k3 L r = EE at *
        have f13 : FrZ e0 t0 x Z := f1.z.trans f3.z
        have bad : ∀ y, FrZ e0 t0 x y → Res.1 ≠ -1 → (∃ j, ScC y q T n j Res.1) → ∀ l1 l2 l3 l4 l5 l6, j_Rec_readValues_158 post SG SO SV 36 l1 l2 l3 l4 l5 l6 y := by
          rintro y g1 g2 ⟨j, g3⟩ l1 l2 l3 l4 l5 l6
          unfold j_Rec_readValues_158
          refine ⟨10, by show y.2.2.1 36 13 = _; rw [g1.2.2.1]; exact hv.2.2.1, d_needSign_i (by rw [g3.2.2.1]; exact g2) (pq y ⟨g1, Or.inr ⟨g2, j, g3⟩⟩)⟩
        refine lp_Rec_readValues_87 (fun o l1 l2 l3 l4 l5 l6 y => 36 = o ∧ nI f = l1 ∧ nI r = l2 ∧ nI dep = l3 ∧ ∃ i, i ≤ n + 1 ∧ nI i = l6 ∧ FrZ e0 t0 x y ∧ ((∃ d k2 L2 lv E2 t2, 1 = l5 ∧ nI lv = l4 ∧ lv < 128 ∧ n + 1 = d + i ∧ i ≤ k2 ∧ k < k2 ∧ RkC e0 t0 y q T n F s k2 E2 t2 ∧ Res = pRow T n F P p f d k2 L2 ∧ EE = E2 ++ eRow T n F P Q p f d k2 L2 lv) ∨ (0 = l5 ∧ ∃ k2 L2 t2, k < k2 ∧ skip T n k2 = k2 ∧ RkC e0 t0 y q T n F s k2 EE t2 ∧ Res = if k2 < n ∧ T k2 = 93 then (-1, k2 + 1, L2) else (nI k2, k2, L2)) ∨ (0 = l5 ∧ Res.1 ≠ -1 ∧ ∃ j, ScC y q T n j Res.1))) (fun _ _ _ _ _ _ l6 _ => n + 2 - l6.toNatClampNeg) ?_ _ _ _ _ _ _ _ _ ⟨rfl, rfl, rfl, rfl, 0, Nat.zero_le _, rfl, f13, Or.inl ⟨n + 1, k3, L, r, E, t, rfl, rfl, hr, rfl, Nat.zero_le _, by omega, h2, hRes.symm, hEE.symm⟩⟩
        rintro R o l1 l2 l3 l4 l5 l6 y ⟨rfl, rfl, rfl, rfl, i, hi, rfl, g1, g⟩ ih
        have y13 : fR y 36 13 = some 10 := by show y.2.2.1 36 13 = _; rw [g1.2.2.1]; exact hv.2.2.1
        unfold j_Rec_readValues_87 j_Rec_readValues_149 j_Rec_readValues_150
        refine ⟨10, y13, ?_⟩
        rcases g with ⟨d, k2, L2, lv, E2, t2, rfl, rfl, hlv, hd, hi2, hk02, g2, g3, g4⟩ | ⟨rfl, k2, L2, t2, hk02, hsk, g2, g3⟩ | ⟨rfl, g2, g3⟩
        · have hcn : fI y 10 1 = nI n := g2.1.1.2.1
          rw [hcn]
          have hk2n := g2.1.2.2.2
          refine br_f (by (first | omega | (simp (disch := omega) only [Int32.le_iff_toInt_le, Int32.lt_iff_toInt_lt, z_eq, z_in, nI_toInt, z_cl, z_m1, z_sg, z_255, Int32.reduceToInt] <;> omega) | (simp only [Int32.le_iff_toInt_le, Int32.lt_iff_toInt_lt, z_eq, z_in, z_add, z_sub, z_mul, z_neg, z_nI, z_cl, z_sg, z_255, z_lit, Int32.reduceToInt] <;> omega))) (br_f (by decide) ?_)
          obtain ⟨d, rfl⟩ : ∃ d', d = d' + 1 := ⟨d - 1, by have := g2.1.2.2.2; omega⟩
          refine hO _ y k2 L2 lv E2 t2 g2 hlv (fun W o => ?_)
          have oz := g1.trans o.1
          have w14 : fR W 36 14 = some s := by show W.2.2.1 36 14 = _; rw [oz.2.2.1]; exact hv.2.2.2.1
          have w13 : fR W 36 13 = some 10 := by show W.2.2.1 36 13 = _; rw [oz.2.2.1]; exact hv.2.2.1
          have rW : RepC W s F := hv.2.1.z hs oz
          refine ⟨s, w14, vin W 5 (hv.1.z oz) (by decide) (by decide) rfl, nm_e ⟨10, w13, c_good ?_⟩⟩
          rw [rA_nI (by omega), (rW.2.2.2.1 f hf).2.2.2.1]
          have hrf := rF_le hw hf
          generalize hV : pVal T n F P k2 p f L2 = V at *
          have g3 : Res = if V.1 = -1 then
              (if skip T n V.2.1 < n ∧ T (skip T n V.2.1) = 93 then (-1, skip T n V.2.1 + 1, V.2.2)
              else if skip T n V.2.1 < n ∧ T (skip T n V.2.1) = 44 then pRow T n F P p f d (skip T n V.2.1 + 1) V.2.2
              else (nI (skip T n V.2.1), skip T n V.2.1, V.2.2)) else V := by rw [g3, ← hV]; rfl
          have g4 : EE = E2 ++ (eVal T n F P Q k2 p f L2 lv ++ (if skip T n V.2.1 < n ∧ T (skip T n V.2.1) = 44 then eRow T n F P Q p f d (skip T n V.2.1 + 1) V.2.2 (rF F f) else [])) := by rw [g4, ← hV]; rfl
          rcases o.2 with ⟨o1, o2, t3, o3⟩ | ⟨o1, j, o2⟩
          · rw [if_pos o3.1.2.2.1]
            rw [if_pos o1] at g3
            have hk4 := o3.1.2.2.2
            have hs4 := @skip_le T n V.2.1 hk4
            have hg4 := skip_ge T n V.2.1
            refine br_f (by decide) ⟨10, w13, d_takeSign o3.1 (by decide) (fun a b X x1 x2 => br_f (by decide) ?_) (fun a X x1 x2 => br_t rfl ?_)⟩
            · rw [if_neg (fun z => by rw [b] at z; exact absurd z.2 (by decide)), if_pos ⟨a, b⟩] at g3
              rw [if_pos ⟨a, b⟩, ← List.append_assoc] at g4
              rw [nI_1]
              refine ih _ _ _ _ _ _ _ _ ⟨rfl, rfl, rfl, rfl, i + 1, by omega, rfl, oz.trans x1.z, Or.inl ⟨d, _, V.2.2, rF F f, _, t3, rfl, rfl, by omega, by omega, by omega, by omega, o3.t hs x1 x2 (by omega), g3, g4⟩⟩ ?_
              rw [nI_clamp (by omega), nI_clamp (by omega)]
              omega
            · rw [if_neg a, List.append_nil] at g4
              rw [nI_1]
              refine ih _ _ _ _ _ _ _ _ ⟨rfl, rfl, rfl, rfl, i + 1, by omega, rfl, oz.trans x1.z, Or.inr (Or.inl ⟨rfl, skip T n V.2.1, V.2.2, t3, by omega, skip_skip _ _ _, by rw [g4]; exact o3.t hs x1 x2 (by omega), ?_⟩)⟩ ?_
              · rw [g3]
                by_cases c9 : skip T n V.2.1 < n ∧ T (skip T n V.2.1) = 93
                · rw [if_pos c9, if_pos c9]
                · rw [if_neg c9, if_neg c9, if_neg a]
              · rw [nI_clamp (by omega), nI_clamp (by omega)]
                omega
          · rw [if_neg (by rw [o2.2.2.1]; exact o1)]
            rw [if_neg o1] at g3
            refine br_t rfl ?_
            rw [nI_1]
            refine ih _ _ _ _ _ _ _ _ ⟨rfl, rfl, rfl, rfl, i + 1, ?_, rfl, oz, Or.inr (Or.inr ⟨rfl, by rw [g3]; exact o1, j, by rw [g3]; exact o2⟩)⟩ ?_
            · omega
            · rw [nI_clamp (by omega), nI_clamp (by omega)]
              omega
        · have e158 : j_Rec_readValues_158 post SG SO SV 36 (nI f) (nI r) (nI dep) l4 0 (nI i) y := by
            unfold j_Rec_readValues_158
            have hk4 := g2.1.2.2.2
            refine ⟨10, y13, d_needSign g2.1 (by decide) (fun a b X x1 x2 => ?_) (fun a X x1 x2 => ?_)⟩
            · rw [hsk] at a b x2
              rw [if_pos ⟨a, b⟩] at g3
              refine pq X ⟨g1.trans x1.t.z, Or.inl ?_⟩
              rw [g3]
              exact ⟨rfl, by show k < k2 + 1; omega, t2, g2.t hs x1.t (k' := k2 + 1) x2 (by omega)⟩
            · rw [hsk] at a x2
              rw [if_neg a] at g3
              refine pq X ⟨g1.trans x1.t.z, Or.inr ?_⟩
              rw [g3]
              exact ⟨nI_nm1 (by omega), k2, x2⟩
          exact ⟨fun _ => e158, fun _ => br_t rfl e158⟩
        · exact ⟨fun _ => bad y g1 g2 g3 _ _ _ _ _ _, fun _ => br_t rfl (bad y g1 g2 g3 _ _ _ _ _ _)⟩
    · rw [if_neg a] at e1
      have nn : ¬ nI (skip T n k) = -1 := nI_nm1 (by omega)
      refine ⟨10, (hv.t hs f1.t).2.2.1, c_good ?_⟩
      rw [if_neg (by rw [f2.2.2.1]; exact nn)]
      refine bn_t rfl (pq Y ⟨f1.t.z, Or.inr ?_⟩)
      rw [e1]
      exact ⟨nn, _, f2⟩
  · have e1 : pVals T n F P k p f L = pVal T n F P k p f L := by unfold pVals; rw [if_neg c2]
    have e2 : eVals T n F P Q k p f L r = eVal T n F P Q k p f L r := by unfold eVals; rw [if_neg c2]
    rw [e1, e2] at pq
    exact br_f c2 (hO _ x k L r E t h hr pq)
