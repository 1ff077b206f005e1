/-! the Opener begins and ends a chunk -/
section
variable {x y z : St} {T : Nat → Nat} {n st p b : Nat} {F : List SFd}
theorem k_lookAt {post : St → Prop} {g c k : Int32} (hL : LC x) (q : ∀ y, Fg no2 no2 no2 (fun a => a = 98) no1 x y → fA y 98 0 = g → fA y 98 1 = c → fA y 98 2 = k → post y) : wp_Opn_lookAt post 96 g c k x := by
  have L98 : fN x 98 = 3 := hL 98 (by decide)
  unfold wp_Opn_lookAt
  rw [show stC 96 4 = 98 from rfl, show (0 : Int32) = nI 0 from rfl, show (1 : Int32) = nI 1 from rfl, show (2 : Int32) = nI 2 from rfl, L98]
  refine ⟨vp_in_nI (by decide) (by decide), nm_e ⟨by show vp_in _ (fN x 98); rw [L98]; exact vp_in_nI (by decide) (by decide), nm_e ⟨by show vp_in _ (fN x 98); rw [L98]; exact vp_in_nI (by decide) (by decide), nm_e (q _ (Fg.trans (Fg.trans (Fg.a rfl) (Fg.a rfl)) (Fg.a rfl)) ?_ ?_ ?_)⟩⟩⟩
  · rw [gA_off (by decide) (by decide), gA_off (by decide) (by decide)]; exact gA_on (by decide)
  · rw [gA_off (by decide) (by decide)]; exact gA_on (by decide)
  · exact gA_on (by decide)
abbrev FrNt (x y : St) : Prop := Fg (fun a k => a = 96 ∧ k = 10) no2 no2 (fun a => a = 89 ∨ a = 90 ∨ a = 91 ∨ a = 94) no1 x y
theorem k_newT {post : Int32 → St → Prop} {t E : Nat} (S : Sr 104 x T n p st) (ht : fI x 96 10 = nI t) (ht2 : t < 5999) (hE : fI x 97 4 = nI E) (q : ∀ y, FrNt x y → fI y 96 10 = nI (t + 1) → fA y 89 = upd (fA x 89) t (nI E) → fA y 90 = upd (fA x 90) t 0 → fA y 91 = upd (fA x 91) t 0 → fA y 94 = upd (fA x 94) t (-1) → post (nI t) y) : wp_Opn_newTeller post 96 x := by
  have hL := S.1.1
  unfold wp_Opn_newTeller
  refine nm_r ht (br_f (by (first | omega | (simp (disch := omega) only [Int32.le_iff_toInt_le, Int32.lt_iff_toInt_lt, z_eq, z_in, nI_toInt, z_cl, z_m1, z_sg, z_255, Int32.reduceToInt] <;> omega) | (simp only [Int32.le_iff_toInt_le, Int32.lt_iff_toInt_lt, z_eq, z_in, z_add, z_sub, z_mul, z_neg, z_nI, z_cl, z_sg, z_255, z_lit, Int32.reduceToInt] <;> omega))) ?_)
  unfold j_Opn_newTeller_21 j_Opn_newTeller_46
  rw [show stC 96 2 = 104 from rfl]
  refine k_ck1 (bn_t S.h0 (nm_e ?_))
  rw [ht, nI_1, show stC (stC 96 0) 13 = 89 from rfl, show stC (stC 96 0) 14 = 90 from rfl, show stC (stC 96 0) 15 = 91 from rfl, show stC (stC 96 0) 18 = 94 from rfl, show stC 96 0 = 97 from rfl]
  refine ⟨by show vp_in _ (fN x 89); rw [show fN x 89 = 6000 from hL 89 (by decide)]; exact vp_in_nI (by omega) (by decide), nm_e ⟨by show vp_in _ (fN x 90); rw [show fN x 90 = 6000 from hL 90 (by decide)]; exact vp_in_nI (by omega) (by decide), nm_e ⟨by show vp_in _ (fN x 91); rw [show fN x 91 = 6000 from hL 91 (by decide)]; exact vp_in_nI (by omega) (by decide), nm_e ⟨by show vp_in _ (fN x 94); rw [show fN x 94 = 6000 from hL 94 (by decide)]; exact vp_in_nI (by omega) (by decide), nm_e ?_⟩⟩⟩⟩
  rw [show fI (setI x 96 10 (nI (t + 1))) 97 4 = nI E from (gI_no (by decide)).trans hE]
  refine q _ (Fg.trans (Fg.trans (Fg.trans (Fg.trans (Fg.i ⟨rfl, rfl⟩) (Fg.a (Or.inl rfl))) (Fg.a (Or.inr (Or.inl rfl)))) (Fg.a (Or.inr (Or.inr (Or.inl rfl))))) (Fg.a (Or.inr (Or.inr (Or.inr rfl))))) (show fI (setI x 96 10 (nI (t + 1))) 96 10 = _ from gI_at) ?_ ?_ ?_ ?_
  · rw [gA_ne (by decide), gA_ne (by decide), gA_ne (by decide), gA_at, nI_clamp (by omega)]; rfl
  · rw [gA_ne (by decide), gA_ne (by decide), gA_at, nI_clamp (by omega), gA_ne (by decide)]; rfl
  · rw [gA_ne (by decide), gA_at, nI_clamp (by omega), gA_ne (by decide), gA_ne (by decide)]; rfl
  · rw [gA_at, nI_clamp (by omega), gA_ne (by decide), gA_ne (by decide), gA_ne (by decide)]; rfl
abbrev FrBc (x y : St) : Prop := Fg (fun a k => a = 96 ∧ (k = 10 ∨ k = 11 ∨ k = 12)) no2 no2 (fun a => a = 88 ∨ a = 89 ∨ a = 90 ∨ a = 91 ∨ a = 94) no1 x y
theorem k_begC {post : Int32 → St → Prop} {t E g c tb : Nat} (S : Sr 104 x T n p st) (ht : fI x 96 10 = nI t) (ht2 : t < 5999) (hE : fI x 97 4 = nI E) (hN : fI x 70 1 = nI (ncol F)) (hN2 : ncol F ≤ 64) (hat : g * ncol F + c < 6000) (hg : g < 500) (h0 : fL x 99 0 = lN tb) (q : ∀ y, FrBc x y → fI y 96 10 = nI (t + 1) → fA y 89 = upd (fA x 89) t (nI E) → fA y 90 = upd (fA x 90) t 0 → fA y 91 = upd (fA x 91) t 0 → fA y 94 = upd (fA x 94) t (-1) → fA y 88 = upd (fA x 88) (g * ncol F + c) (nI t) → fI y 96 11 = nI (p + tb) → fI y 96 12 = 0 → post (nI t) y) : wp_Opn_beginChunk post 96 (nI g) (nI c) x := by
  have hL := S.1.1
  unfold wp_Opn_beginChunk
  refine k_newT S ht ht2 hE (fun y y1 y2 y3 y4 y5 y6 => nm_r (e' := nI (g * ncol F + c)) ?_ (br_f (by (first | omega | (simp (disch := omega) only [Int32.le_iff_toInt_le, Int32.lt_iff_toInt_lt, z_eq, z_in, nI_toInt, z_cl, z_m1, z_sg, z_255, Int32.reduceToInt] <;> omega) | (simp only [Int32.le_iff_toInt_le, Int32.lt_iff_toInt_lt, z_eq, z_in, z_add, z_sub, z_mul, z_neg, z_nI, z_cl, z_sg, z_255, z_lit, Int32.reduceToInt] <;> omega))) ?_))
  · rw [show stC (stC 96 0) 5 = 70 from rfl, (y1.ii (by decide)).trans hN, nI_mul, nI_add]
  have Sy : Sr 104 y T n p st := S.cg y1 (by decide) (by decide) (by decide) (by decide)
  unfold j_Opn_beginChunk_38 j_Opn_beginChunk_64
  rw [show stC 96 2 = 104 from rfl, show stC (stC 96 0) 12 = 88 from rfl, show stC 96 6 = 99 from rfl]
  refine k_ck1 (bn_t Sy.h0 ⟨by rw [y1.len, show fN x 88 = 6000 from hL 88 (by decide)]; exact vp_in_nI hat (by decide), nm_e ⟨by show vp_in _ (fN y 99); rw [y1.len, show fN x 99 = 6 from hL 99 (by decide)]; exact vp_in_nI (n := 0) (by decide) (by decide), nm_e (nm_e ?_)⟩⟩)
  have e0 : rL (setA y 88 (nI (g * ncol F + c)) (nI t)) 99 0 = lN tb := by
    rw [show (0 : Int32) = nI 0 from rfl, rL_nI (by decide)]
    show fL y 99 0 = _
    rw [y1.ll id]
    exact h0
  rw [e0, lN_i, show fI (setA y 88 (nI (g * ncol F + c)) (nI t)) 104 1 = nI p from Sy.hp, nI_add]
  have fm : FrBc x y := y1.mono (fun _ _ z => ⟨z.1, Or.inl z.2⟩) (fun _ _ z => z) (fun _ _ z => z) (fun _ z => Or.inr z) (fun _ z => z)
  refine q _ (Fg.trans (Fg.trans (Fg.trans fm (Fg.a (Or.inl rfl))) (Fg.i ⟨rfl, by decide⟩)) (Fg.i ⟨rfl, by decide⟩)) ?_ ?_ ?_ ?_ ?_ ?_ ?_ gI_at
  · rw [gI_ne (by decide), gI_ne (by decide)]; exact y2
  · show fA (setA y 88 _ _) 89 = _
    rw [gA_ne (by decide), y3]
  · show fA (setA y 88 _ _) 90 = _
    rw [gA_ne (by decide), y4]
  · show fA (setA y 88 _ _) 91 = _
    rw [gA_ne (by decide), y5]
  · show fA (setA y 88 _ _) 94 = _
    rw [gA_ne (by decide), y6]
  · show fA (setA y 88 _ _) 88 = _
    rw [gA_at, nI_clamp (by omega), y1.aa (by decide)]
  · rw [gI_ne (by decide)]; exact gI_at
theorem k_endC {post : St → Prop} {c ct g G0 rh pE first tb fa : Nat} {C A : List SEn} {t : ChT} (S : Sr 104 x T n p st) (hw : WfS F) (hR : RepC x 70 F) (hc : c < ncol F) (hb : b ≤ 120255) (hct : ct < 6000) (tC : TeC x F b ct c first C) (hC : first + C.length ≤ 10000) (hEn : ∀ k, k < C.length → EnV x F b (first + k) (C.getD k en0)) (hok : ∀ e, e ∈ C → okE F e ∧ e.1 = c) (h11 : fI x 96 11 = nI pE) (hpE : p ≤ pE) (hpE2 : pE ≤ 40000) (hcr : fI x 96 12 = nI (nR C)) (hg : g < 500) (hG0 : fA x 87 g = nI G0) (hG1 : fA x 87 (g + 1) = nI (G0 + rh)) (hG2 : G0 + rh ≤ 2000) (td : TdC x b (tyC F c) t) (ht1 : t.2.2.1 ≤ 10000) (ht2 : t.2.2.2.1 ≤ t.2.2.1)
    (hA : 1 ≤ c → fA x 88 (g * ncol F + c - 1) = nI tb ∧ tb < 6000 ∧ fA x 89 tb = nI fa ∧ fA x 90 tb = nI A.length ∧ fa + A.length ≤ 10000 ∧ g * ncol F + c < 6000 ∧ ∀ k, k < A.length → fA x 83 (fa + k) = nI (A.getD k en0).2.1 ∧ fA x 84 (fa + k) = nI (A.getD k en0).2.2.1 ∧ (A.getD k en0).2.1 ≤ 17 ∧ (A.getD k en0).2.2.1 ≤ 17)
    (pe : ∀ e y, (p < pE ∧ e = 6 ∨ ¬ p < pE ∧ ckE F c t rh A C ≠ 0 ∧ e = ckE F c t rh A C) → FrSr 104 x y → FlC 104 y e → post y)
    (pk : ¬ p < pE → ckE F c t rh A C = 0 → post x) : wp_Opn_endChunk post 96 (nI g) (nI c) (nI ct) x := by
  have hL := S.1.1
  have hS := S.le
  obtain ⟨l1, l2, l3⟩ := lfC_ok hc
  obtain ⟨ty4, -⟩ := ty_lt hw hc
  have h128 := hw.1
  have h64 := hw.2.1
  obtain ⟨t1, t2, t3, t4⟩ := tC
  obtain ⟨d0, d1, d2, d3, -, -, d4⟩ := td
  have L99 : fN x 99 = 6 := hL 99 (by decide)
  have nrC := nR_le C
  have vlC := vlE_le (md := mdC F c) C
  have vin : ∀ {k : Nat} {w : St}, k < 6 → FrSr 104 x w → vp_in (nI k) (fN w 99) := fun hk hw => by rw [hw.len, L99]; exact vp_in_nI hk (by decide)
  have vct : ∀ {r : Nat} {w : St}, r = 90 ∨ r = 91 ∨ r = 92 ∨ r = 93 → FrSr 104 x w → vp_in (nI ct) (fN w r) := fun hr hw => by
    rw [hw.len]
    rcases hr with rfl | rfl | rfl | rfl
    · rw [show fN x 90 = 6000 from hL 90 (by decide)]; exact vp_in_nI hct (by decide)
    · rw [show fN x 91 = 6000 from hL 91 (by decide)]; exact vp_in_nI hct (by decide)
    · rw [show fN x 92 = 6000 from hL 92 (by decide)]; exact vp_in_nI hct (by decide)
    · rw [show fN x 93 = 6000 from hL 93 (by decide)]; exact vp_in_nI hct (by decide)
  -- in a fault
  have f265 : ∀ e w l4 l5 l6, (p < pE ∧ e = 6 ∨ ¬ p < pE ∧ ckE F c t rh A C ≠ 0 ∧ e = ckE F c t rh A C) → FrSr 104 x w → FlC 104 w e → j_Opn_endChunk_265 post 96 (nI g) (nI c) (nI ct) l4 l5 l6 w := fun e w l4 l5 l6 h1 h2 h3 => by
    unfold j_Opn_endChunk_265
    exact bn_f h3.ne (pe e w h1 h2 h3)
  have f152 : ∀ e w l4 l5 l6 s0, (p < pE ∧ e = 6 ∨ ¬ p < pE ∧ ckE F c t rh A C ≠ 0 ∧ e = ckE F c t rh A C) → FrSr 104 x w → FlC 104 w e → j_Opn_endChunk_152 post 96 (nI g) (nI c) (nI ct) l4 l5 l6 s0 104 w := fun e w l4 l5 l6 s0 h1 h2 h3 => by
    unfold j_Opn_endChunk_152
    exact k_ckf h3.ne (bn_f h3.ne (f265 e w _ _ _ h1 h2 h3))
  have f118 : ∀ e w l4 l5 l6 s0, (p < pE ∧ e = 6 ∨ ¬ p < pE ∧ ckE F c t rh A C ≠ 0 ∧ e = ckE F c t rh A C) → FrSr 104 x w → FlC 104 w e → j_Opn_endChunk_118 post 96 (nI g) (nI c) (nI ct) l4 l5 l6 s0 104 w := fun e w l4 l5 l6 s0 h1 h2 h3 => by
    unfold j_Opn_endChunk_118
    exact k_ckf h3.ne ⟨vct (r := 91) (by decide) h2, vin (k := 3) (by decide) h2, fun _ => f152 e w _ _ _ _ h1 h2 h3, fun _ => f152 e w _ _ _ _ h1 h2 h3⟩
  unfold wp_Opn_endChunk
  rw [show stC (stC (stC 96 0) 5) 10 = 79 from rfl, show stC (stC (stC 96 0) 5) 3 = 72 from rfl, show stC (stC 96 0) 14 = 90 from rfl, show stC (stC 96 0) 11 = 87 from rfl, show stC 96 2 = 104 from rfl, show fN x 79 = 64 from hL 79 (by decide), show fN x 72 = 128 from hL 72 (by decide), show fN x 90 = 6000 from hL 90 (by decide), show fN x 87 = 501 from hL 87 (by decide), rA_nI (by omega : c < 2 ^ 31), col79 hR hc, rA_nI (by omega : lfC F c < 2 ^ 31), col72 hw hR hc, rA_nI (by omega : ct < 2 ^ 31), t2, nI_1, rA_nI (by omega : g + 1 < 2 ^ 31), rA_nI (by omega : g < 2 ^ 31), hG1, hG0, nI_sub (by omega), show G0 + rh - G0 = rh by omega, S.hp, h11]
  refine ⟨vp_in_nI (by omega) (by decide), vp_in_nI (by omega) (by decide), nm_e ⟨vp_in_nI hct (by decide), nm_e ⟨vp_in_nI (by omega) (by decide), vp_in_nI (by omega) (by decide), nm_e ?_⟩⟩⟩
  by_cases c6 : p < pE
  · refine bn_f (fun z => by have := nI_inj (by omega) (by omega) z; omega) ?_
    unfold j_Opn_endChunk_82 j_Opn_endChunk_117
    refine r_ck0 6 S (by decide) (by decide) (fun w w1 w2 => ⟨vin (k := 2) (by decide) w1, ?_⟩)
    have er : p < pE ∧ 6 = 6 ∨ ¬ p < pE ∧ ckE F c t rh A C ≠ 0 ∧ 6 = ckE F c t rh A C := Or.inl ⟨c6, rfl⟩
    exact ⟨fun _ => f118 6 w _ _ _ _ er w1 w2, fun _ => ⟨fun _ => f118 6 w _ _ _ _ er w1 w2, fun _ => f118 6 w _ _ _ _ er w1 w2⟩⟩
  refine bn_t (by congr 1; omega) ?_
  have bad : ∀ {e : Nat}, ckE F c t rh A C = e → e ≠ 0 → (p < pE ∧ e = 6 ∨ ¬ p < pE ∧ ckE F c t rh A C ≠ 0 ∧ e = ckE F c t rh A C) := fun h1 h2 => Or.inr ⟨c6, by rw [h1]; exact h2, h1.symm⟩
  unfold j_Opn_endChunk_82
  rw [show stC 96 6 = 99 from rfl, show stC 96 2 = 104 from rfl]
  refine k_ck1 ⟨vin (k := 2) (by decide) (Fg.refl x), ?_⟩
  rw [show rL x 99 2 = lN t.2.2.1 from (rL_nI (k := 2) (by decide)).trans d2, show (nI C.length).toInt64 = lN C.length from nI_l (by omega), lg_cmp_eq]
  -- the numbers of entries and rows
  have b16 : (C.length ≠ t.2.2.1 ∨ nR C ≠ rh) → j_Opn_endChunk_117 post 96 (nI g) (nI c) (nI ct) (nI (tyC F c)) (nI C.length) (nI rh) 104 x := fun h => by
    unfold j_Opn_endChunk_117 j_Opn_endChunk_118
    have er : ckE F c t rh A C = 16 := by unfold ckE; rw [if_pos h]
    exact r_ck0 16 S (by decide) (by decide) (fun w w1 w2 => ⟨vct (r := 91) (by decide) w1, vin (k := 3) (by decide) w1, fun _ => f152 16 w _ _ _ _ (bad er (by decide)) w1 w2, fun _ => f152 16 w _ _ _ _ (bad er (by decide)) w1 w2⟩)
  by_cases cE : C.length = t.2.2.1
  rotate_left
  · exact bn_f (fun z => cE (lN_inj (by omega) (by omega) z)) (b16 (Or.inl cE))
  refine bn_t (by rw [cE]) ?_
  rw [hcr]
  by_cases cR : nR C = rh
  rotate_left
  · exact bn_f (fun z => cR (nI_inj (by omega) (by omega) z)) (b16 (Or.inr cR))
  refine bn_t (by rw [cR]) ?_
  have k1 : ckE F c t rh A C = (if C.length - (vlE (mdC F c) C).length ≠ t.2.2.2.1 then 10 else if vlE (mdC F c) C ≠ [] ∧ kv (tyC F c) (mnV (tyC F c) (vlE (mdC F c) C)) ≠ kv (tyC F c) t.2.2.2.2.1 then 11 else if vlE (mdC F c) C ≠ [] ∧ kv (tyC F c) (mxV (tyC F c) (vlE (mdC F c) C)) ≠ kv (tyC F c) t.2.2.2.2.2 then 12 else if c ≠ 0 ∧ aprt F (lfC F (c - 1)) (lfC F c) A C then 21 else 0) := by
    unfold ckE
    rw [if_neg (by omega)]
  unfold j_Opn_endChunk_118
  rw [show stC (stC 96 0) 15 = 91 from rfl, show stC 96 6 = 99 from rfl, show stC 96 2 = 104 from rfl]
  refine k_ck1 ⟨vct (r := 91) (by decide) (Fg.refl x), vin (k := 3) (by decide) (Fg.refl x), ?_⟩
  rw [rA_nI (by omega : ct < 2 ^ 31), t3, show rL x 99 3 = lN t.2.2.2.1 from (rL_nI (k := 3) (by decide)).trans d3, show (nI (C.length - (vlE (mdC F c) C).length)).toInt64 = lN (C.length - (vlE (mdC F c) C).length) from nI_l (by omega), lg_cmp_eq]
  by_cases cN : C.length - (vlE (mdC F c) C).length = t.2.2.2.1
  rotate_left
  · rw [if_pos cN] at k1
    refine bn_f (fun z => cN (lN_inj (by omega) (by omega) z)) ?_
    unfold j_Opn_endChunk_152
    exact r_ck0 10 S (by decide) (by decide) (fun w w1 w2 => bn_f w2.ne (f265 10 w _ _ _ (bad k1 (by decide)) w1 w2))
  rw [if_neg (fun z => z cN)] at k1
  refine bn_t (by rw [cN]) ?_
  -- whether it goes with the column before it
  have apa : ∀ {v : Nat}, ckE F c t rh A C = (if c ≠ 0 ∧ aprt F (lfC F (c - 1)) (lfC F c) A C then 21 else 0) → j_Opn_endChunk_265 post 96 (nI g) (nI c) (nI ct) (nI (tyC F c)) (nI C.length) (nI rh) x := fun {_} k2 => by
    unfold j_Opn_endChunk_265
    rw [show stC 96 2 = 104 from rfl, show stC (stC 96 0) 5 = 70 from rfl, show stC (stC 96 0) 12 = 88 from rfl]
    refine bn_t S.h0 ?_
    by_cases c0 : c = 0
    · rw [if_neg (fun z => z.1 c0)] at k2
      exact br_t (by rw [c0]; decide) (pk c6 k2)
    · obtain ⟨a1, a2, a3, a4, a5, a5', a6⟩ := hA (by omega)
      refine br_f (by (first | omega | (simp (disch := omega) only [Int32.le_iff_toInt_le, Int32.lt_iff_toInt_lt, z_eq, z_in, nI_toInt, z_cl, z_m1, z_sg, z_255, Int32.reduceToInt] <;> omega) | (simp only [Int32.le_iff_toInt_le, Int32.lt_iff_toInt_lt, z_eq, z_in, z_add, z_sub, z_mul, z_neg, z_nI, z_cl, z_sg, z_255, z_lit, Int32.reduceToInt] <;> omega))) ?_
      rw [hR.2.1, nI_mul, nI_add, show (1 : Int32) = nI 1 from rfl, nI_sub (by omega), show fN x 88 = 6000 from hL 88 (by decide)]
      refine ⟨vp_in_nI (by omega) (by decide), nm_r (e' := nI tb) (by rw [rA_nI (by omega), a1]) ?_⟩
      refine k_goT hL hw hR hc (by omega) a2 hct a3 a4 t1 t2 a5 hC a6 (fun k hk => ?_) (fun h => ?_) (fun h => ?_)
      · obtain ⟨e1, e2, -⟩ := hEn k hk
        obtain ⟨⟨o1, o2, o3, -⟩, o4⟩ := hok _ (show C.getD k en0 ∈ C by rw [en_at hk]; exact List.getElem_mem hk)
        have := lv17 hw o1
        exact ⟨e1, e2, by omega, by omega⟩
      · rw [if_neg (fun z => h z.2)] at k2
        exact k_ck1 (pk c6 k2)
      · rw [if_pos ⟨c0, h⟩] at k2
        exact r_ck0 21 S (by decide) (by decide) (fun w w1 w2 => pe 21 w (bad k2 (by decide)) w1 w2)
  unfold j_Opn_endChunk_152
  rw [show stC 96 2 = 104 from rfl, show stC 96 6 = 99 from rfl, show stC (stC 96 0) 16 = 92 from rfl, show stC 96 0 = 97 from rfl]
  refine k_ck1 (bn_t S.h0 ⟨vin (k := 3) (by decide) (Fg.refl x), vin (k := 2) (by decide) (Fg.refl x), ?_⟩)
  rw [show rL x 99 3 = lN t.2.2.2.1 from (rL_nI (k := 3) (by decide)).trans d3, show rL x 99 2 = lN t.2.2.1 from (rL_nI (k := 2) (by decide)).trans d2, lg_cmp_ge, lN_le2 (by omega) (by omega)]
  by_cases cV : t.2.2.1 ≤ t.2.2.2.1
  · have v0 : vlE (mdC F c) C = [] := List.length_eq_zero_iff.mp (by omega)
    rw [if_neg (fun z => z.1 v0), if_neg (fun z => z.1 v0)] at k1
    exact br_t cV (apa (v := 0) k1)
  have vne : vlE (mdC F c) C ≠ [] := fun z => by rw [z] at cN; have : ([] : List PV).length = 0 := rfl; omega
  obtain ⟨lo, hi, q1, q2, q3, q4⟩ := t4 vne
  obtain ⟨q5, q6⟩ := d4 (by omega)
  have okV : ∀ v, v ∈ vlE (mdC F c) C → okPv (tyC F c) v := fun v hv => by
    obtain ⟨e, e1, e2, e3⟩ := vlE_mem hv
    obtain ⟨⟨-, -, -, o4, -⟩, o5⟩ := hok e e1
    rw [o5] at o4
    rw [← e3]
    exact o4 e2
  obtain ⟨kl, kh⟩ := kv_un okV vne q2 q4
  refine br_f cV ⟨vct (r := 92) (by decide) (Fg.refl x), vin (k := 4) (by decide) (Fg.refl x), ?_⟩
  rw [rL_nI (by omega : ct < 2 ^ 31), show rL x 99 4 = fL x 99 4 from rL_nI (k := 4) (by decide)]
  refine k_cmp hL hb ty4 q1 q5 ?_
  have t2' : ∀ w, FrSr 104 x w → ((FlC 104 w 11 ∧ ckE F c t rh A C = 11) ∨ x = w ∧ ckE F c t rh A C = (if vlE (mdC F c) C ≠ [] ∧ kv (tyC F c) (mxV (tyC F c) (vlE (mdC F c) C)) ≠ kv (tyC F c) t.2.2.2.2.2 then 12 else if c ≠ 0 ∧ aprt F (lfC F (c - 1)) (lfC F c) A C then 21 else 0)) → (vp_in (nI ct) (fN w (stC (stC 96 0) 17)) ∧ (vp_in 5 (fN w (stC 96 6)) ∧ wp_Vlt_compare (fun (r10 : Int32) (x9 : St) => ((¬ r10 = 0 → j_Opn_endChunk_260 post 96 (nI g) (nI c) (nI ct) (nI (tyC F c)) (nI C.length) (nI rh) 0 (stC 96 2) x9) ∧ (r10 = 0 → j_Opn_endChunk_260 post 96 (nI g) (nI c) (nI ct) (nI (tyC F c)) (nI C.length) (nI rh) 1 (stC 96 2) x9))) (stC 96 0) (nI (tyC F c)) (rL w (stC (stC 96 0) 17) (nI ct)) (rL w (stC 96 6) 5) w)) := fun w w1 w2 => by
    rw [show stC (stC 96 0) 17 = 93 from rfl, show stC 96 6 = 99 from rfl, show stC 96 2 = 104 from rfl, show stC 96 0 = 97 from rfl, rL_nI (by omega : ct < 2 ^ 31), show rL w 99 5 = fL w 99 5 from rL_nI (k := 5) (by decide), w1.ll id, w1.ll id]
    refine ⟨vct (r := 93) (by decide) w1, vin (k := 5) (by decide) w1, k_cmp (Fg.fic w1 id S.1).1 hb ty4 (q3.same (w1.aa id)) (q6.same (w1.aa id)) ?_⟩
    unfold j_Opn_endChunk_260
    rcases w2 with ⟨f1, f2⟩ | ⟨rfl, f2⟩
    · exact ⟨fun _ => k_ckf f1.ne (f265 11 w _ _ _ (bad f2 (by decide)) w1 f1), fun _ => k_ckf f1.ne (f265 11 w _ _ _ (bad f2 (by decide)) w1 f1)⟩
    · by_cases ch : kv (tyC F c) hi = kv (tyC F c) t.2.2.2.2.2
      · rw [if_neg (fun z => z.2 (kh.trans ch))] at f2
        exact bn_t ((cmpV_0 q3.ok q6.ok).mpr ch) (k_ck1 (apa (v := 0) f2))
      · rw [if_pos ⟨vne, fun z => ch (kh.symm.trans z)⟩] at f2
        exact bn_f (fun z => ch ((cmpV_0 q3.ok q6.ok).mp z)) (r_ck0 12 S (by decide) (by decide) (fun u u1 u2 => f265 12 u _ _ _ (bad f2 (by decide)) u1 u2))
  unfold j_Opn_endChunk_219
  by_cases cl : kv (tyC F c) lo = kv (tyC F c) t.2.2.2.2.1
  · rw [if_neg (fun z => z.2 (kl.trans cl))] at k1
    exact bn_t ((cmpV_0 q1.ok q5.ok).mpr cl) (k_ck1 (t2' x (Fg.refl x) (Or.inr ⟨rfl, k1⟩)))
  · rw [if_pos ⟨vne, fun z => cl (kl.symm.trans z)⟩] at k1
    exact bn_f (fun z => cl ((cmpV_0 q1.ok q5.ok).mp z)) (r_ck0 11 S (by decide) (by decide) (fun w w1 w2 => t2' w w1 (Or.inl ⟨w2, k1⟩)))
end
