/-! values of flat columns, class -/
def AId (o : Nat) : Prop := o = 128 ∨ o = 137
theorem sta {o : Nat} (h : AId o) : stC o 4 = o + 1 ∧ stC o 5 = o + 2 ∧ stC o 8 = o + 3 ∧ stC o 9 = o + 4 ∧ stC o 10 = o + 5 ∧ stC o 11 = o + 6 ∧ stC o 12 = o + 7 ∧ stC o 13 = o + 8 := by
  rcases h with rfl | rfl <;> decide
theorem AId.len {x : St} {o : Nat} (h : AId o) (hL : LC x) : fN x (o + 1) = 128 ∧ fN x (o + 2) = 2000 ∧ fN x (o + 3) = 8000 ∧ fN x (o + 4) = 8000 ∧ fN x (o + 5) = 1024 ∧ fN x (o + 6) = 65 ∧ fN x (o + 7) = 64 ∧ fN x (o + 8) = 64 := by
  rcases h with rfl | rfl
  · exact ⟨hL 129 (by decide), hL 130 (by decide), hL 131 (by decide), hL 132 (by decide), hL 133 (by decide), hL 134 (by decide), hL 135 (by decide), hL 136 (by decide)⟩
  · exact ⟨hL 138 (by decide), hL 139 (by decide), hL 140 (by decide), hL 141 (by decide), hL 142 (by decide), hL 143 (by decide), hL 144 (by decide), hL 145 (by decide)⟩
/-- what is open, with the bounds of the pool -/
def RuC (x : St) (F : List SFd) (G : List Nat) (K : List ChT) (CK : List (List PgW)) (b dE : Nat) : Prop := LC x ∧ OkO F G CK ∧ OpC x F (smN G) G K CK ∧ BeS x F G b dE CK
/-- an entry of a flat column has a value, or none -/
def CeC (x : St) (F : List SFd) (b e c : Nat) (v : Option PV) : Prop := e < 10000 ∧ (∃ d, fA x 84 e = nI d ∧ d ≤ 127 ∧ (d = mdC F c ↔ v ≠ none)) ∧ ∀ p, v = some p → RfP x b (tyC F c) (fL x 85 e) p
section
variable {x y : St} {F : List SFd} {G : List Nat} {K : List ChT} {CK : List (List PgW)} {b dE f r : Nat}
theorem BeS.cg (h : BeS x F G b dE CK) (hI : ∀ o k, o = 96 ∨ o = 97 → fI y o k = fI x o k) (hA : ∀ a, 71 ≤ a → a ≤ 95 → fA y a = fA x a) (hl : ∀ a, 71 ≤ a → a ≤ 95 → fL y a = fL x a) : BeS y F G b dE CK := by
  obtain ⟨⟨w4, wE, w14, wb1, wb2, w16, wtx, w13, wd, wEn⟩, c, h10, h3⟩ := h
  refine ⟨⟨(hI _ _ (by omega)).trans w4, wE, (hI _ _ (by omega)).trans w14, wb1, wb2, (hI _ _ (by omega)).trans w16, wtx, (hI _ _ (by omega)).trans w13, wd, fun i hi => (wEn i hi).up (by rw [hA 83 (by decide) (by decide)]) (by rw [hA 84 (by decide) (by decide)]) (by rw [hl 85 (by decide) (by decide)]) (fun i _ => by rw [hA 82 (by decide) (by decide)]) (Nat.le_refl _)⟩, ?_, (hI _ _ (by omega)).trans h10, (hI _ _ (by omega)).trans h3⟩
  exact c.up (fun s _ => ⟨by rw [hA 89 (by decide) (by decide)], by rw [hA 90 (by decide) (by decide)], by rw [hA 91 (by decide) (by decide)], by rw [hA 94 (by decide) (by decide)], by rw [hl 92 (by decide) (by decide)], by rw [hl 93 (by decide) (by decide)]⟩) (fun w _ => by rw [hA 88 (by decide) (by decide)]) (fun w _ j _ => by rw [hA 86 (by decide) (by decide)]) (fun i _ => by rw [hl 95 (by decide) (by decide)]) (Nat.le_refl _) (fun i _ => by rw [hA 82 (by decide) (by decide)]) (Nat.le_refl _)
theorem OpC.cg {rows : Nat} (h : OpC x F rows G K CK) (hI : ∀ o k, o = 70 ∨ o = 96 ∨ o = 97 → fI y o k = fI x o k) (hA : ∀ a, 71 ≤ a → a ≤ 95 → fA y a = fA x a) (hl : ∀ a, 71 ≤ a → a ≤ 95 → fL y a = fL x a) : OpC y F rows G K CK := by
  obtain ⟨h1, h2, h3, h4, h5, h6, h7, h8, h9, h10, h11, h12, h13, h14, b, dE, h15⟩ := h
  refine ⟨h1.cg7 (hI _ _ (by omega)) (hI _ _ (by omega)) (fun r r1 r2 => hA r r1 (by omega)), h2, (hI _ _ (by omega)).trans h3, (hI _ _ (by omega)).trans h4, fun k hk => by rw [hA 87 (by decide) (by decide)]; exact h5 k hk, h6, h7, h8, h9, h10, h11, h12, h13, by rw [hA 83 (by decide) (by decide)]; exact h14, b, dE, h15.cg (fun o k ho => hI o k (by omega)) hA hl⟩
theorem RuC.cg (h : RuC x F G K CK b dE) (hL : LC y) (hI : ∀ o k, o = 70 ∨ o = 96 ∨ o = 97 → fI y o k = fI x o k) (hA : ∀ a, 71 ≤ a → a ≤ 95 → fA y a = fA x a) (hl : ∀ a, 71 ≤ a → a ≤ 95 → fL y a = fL x a) : RuC y F G K CK b dE := ⟨hL, h.2.1, h.2.2.1.cg hI hA hl, h.2.2.2.cg (fun o k ho => hI o k (by omega)) hA hl⟩
theorem RuC.bb (h : RuC x F G K CK b dE) : b ≤ 120255 := by
  obtain ⟨-, -, -, ⟨-, -, -, -, b2, -, tx, -⟩, -⟩ := h
  omega
theorem RuC.hl (h : RuC x F G K CK b dE) : CK.length = ncol F * G.length := by
  rw [Nat.mul_comm]
  exact h.2.2.1.2.2.2.2.2.1
theorem k_cell {post : Int32 → St → Prop} (R : RuC x F G K CK b dE) (hf : colF F f) (hr : r < smN G) (p : ∀ e, CeC x F b e (ncol (F.take f)) (celR F G CK r (ncol (F.take f))) → post (nI e) x) : wp_Vlt_entryOf post 97 (nI r) (nI (ncol (F.take f))) x := by
  obtain ⟨hL, ok, O, B⟩ := R
  have hw := O.2.1
  have hl : CK.length = ncol F * G.length := by rw [Nat.mul_comm]; exact O.2.2.2.2.2.1
  obtain ⟨hc, hlf⟩ := col_ok hw hf
  obtain ⟨g1, g2, g3⟩ := rgO_ok hr
  have he : (enA CK).length ≤ 10000 := B.1.2.1
  have c86 := cell86 hw O ok g1 g2 g3 he hc
  have fl := flat_len hw ok hl hf g1
  obtain ⟨lw, k1, o3, o4, o5, -⟩ := ok.at hl g1 hc
  unfold celR at p
  generalize hj : r - smN (G.take (rgO G r)) = j at *
  generalize rgO G r = g at *
  have hi : j < (ckG F CK g (ncol (F.take f))).length := by omega
  obtain ⟨k, j1, j2, j3, j4⟩ := rwL_pos o4 (show j < nR (ckG F CK g (ncol (F.take f))) by rw [o5]; omega)
  have fk : nR ((ckG F CK g (ncol (F.take f))).take k) = k := by
    unfold nR
    rw [List.filter_eq_self.mpr, List.length_take]
    · omega
    · intro e he
      obtain ⟨o1, o2⟩ := k1 e (List.mem_of_mem_take he)
      have := o1.2.1
      rw [o2] at this
      have z : mrC F (ncol (F.take f)) = 0 := by
        show rF F (lfC F (ncol (F.take f))) = 0
        rw [hlf]
        exact hf.2.2
      exact decide_eq_true (by omega)
  have kj : k = j := by omega
  subst kj
  have pv : eC F CK g (ncol (F.take f)) - (recS F CK g k (ncol (F.take f))).length = (enA (CK.take (ncol F * g + ncol (F.take f)))).length + k := by
    show eC F CK g (ncol (F.take f)) - (rwL (ckG F CK g (ncol (F.take f))) k).length = _
    rw [j2, List.length_drop]
    unfold eC
    omega
  rw [pv] at c86
  have ei := enA_in lw hi
  have tk2 : (enA (CK.take (ncol F * g + ncol (F.take f)))).length + k < (enA CK).length := by
    have := congrArg List.length (enA_split lw)
    rw [List.length_append, List.length_append] at this
    have hi2 : k < (ckC (CK.getD (ncol F * g + ncol (F.take f)) [])).length := hi
    omega
  obtain ⟨-, n1, n2, -⟩ := B.1.2.2.2.2.2.2.2.2.2 _ tk2
  rw [ei] at n1 n2
  have me : (ckG F CK g (ncol (F.take f))).getD k en0 ∈ ckG F CK g (ncol (F.take f)) := mem_gD hi
  obtain ⟨q1, q2⟩ := k1 _ me
  rw [q2] at n2
  refine k_entryOf hL O.1 c86.1 c86.2 (p _ ⟨by omega, ⟨_, n1, ?_, ?_⟩, fun q hq => ?_⟩)
  · have := q1.2.2.1
    rw [q2] at this
    have := (lv17 hw hc).2
    omega
  · unfold cel
    split
    · rename_i d
      exact ⟨fun _ z => (nomatch z), fun _ => d⟩
    · rename_i d
      exact ⟨fun z => absurd z d, fun z => absurd rfl z⟩
  · unfold cel at hq
    split at hq
    · rename_i d
      injection hq with hq
      rw [← hq]
      exact n2 d
    · exact nomatch hq
theorem k_hasQ {post : Int32 → St → Prop} {e : Nat} {v : Option PV} (R : RuC x F G K CK b dE) (hf : colF F f) (h : CeC x F b e (ncol (F.take f)) v) (p1 : ∀ q, v = some q → RfP x b (tyC F (ncol (F.take f))) (fL x 85 e) q → post 1 x) (p0 : v = none → post 0 x) : wp_Vlt_hasValue post 97 (nI e) (nI (ncol (F.take f))) x := by
  obtain ⟨h1, ⟨d, d1, d2, d3⟩, h3⟩ := h
  have hw := R.2.2.1.2.1
  obtain ⟨hc, hlf⟩ := col_ok hw hf
  refine k_hasV R.1 hw R.2.2.1.1 hc (by omega) d1 d2 (fun z => ?_) (fun z => ?_)
  · match v, d3, h3, p1 with
    | none, d3, _, _ => exact absurd rfl (d3.mp z)
    | some q, _, h3, p1 => exact p1 q rfl (h3 q rfl)
  · match v, d3, p0 with
    | none, _, p0 => exact p0 rfl
    | some q, d3, _ => exact absurd (d3.mpr (fun w => nomatch w)) z
theorem k_typeOf {post : Int32 → St → Prop} {o : Nat} (R : RuC x F G K CK b dE) (hf : colF F f) (h14 : fR x o 14 = some 97) (p : post (nI (tOf F (nI f))) x) : wp_Ans_typeOf post o (nI (ncol (F.take f))) x := by
  have hw := R.2.2.1.2.1
  have hR := R.2.2.1.1
  obtain ⟨hc, hlf⟩ := col_ok hw hf
  obtain ⟨-, t4, tE⟩ := tOf_n hw hf
  have hF := hw.1
  have hC := hw.2.1
  have f1 := hf.1
  have e79 : rA x 79 (nI (ncol (F.take f))) = nI f := by
    rw [rA_nI (by omega)]
    exact hR.2.2.2.2 f hf.1 hf.2.1
  have e72 : rA x 72 (nI f) = nI (tOf F (nI f)) := by
    rw [rA_nI (by omega)]
    exact (hR.2.2.2.1 f hf.1).2.1.trans tE
  unfold wp_Ans_typeOf
  refine ⟨97, h14, 97, h14, ?_⟩
  show vp_in _ (fN x 79) ∧ vp_in (rA x 79 _) (fN x 72) ∧ post (rA x 72 (rA x 79 _)) x
  rw [e79, e72, show fN x 79 = 64 from R.1 79 (by decide), show fN x 72 = 128 from R.1 72 (by decide)]
  exact ⟨vp_in_nI (by omega) (by decide), vp_in_nI (by omega) (by decide), p⟩
end
/-- the class: values of two rows -/
theorem c_compare2 {post : Int32 → St → Prop} {x : St} {r r' ty : Nat} {v w : Int64} {p q : PV} (hty : ty < 4) (hv : RfC x r ty v p) (hw : RfC x r' ty w q) (k : post (cmpV ty p q) x) : wp_V_compareValues post (nI ty) r v r' w x := by
  unfold wp_V_compareValues
  by_cases c3 : ty = 3
  · subst c3
    refine br_t rfl ?_
    obtain ⟨g1, g2, a, rfl, g4, g5⟩ := hv.2 rfl
    obtain ⟨d1, d2, b, rfl, d4, d5⟩ := hw.2 rfl
    have l1 := g1.1
    have l2 := d1.1
    rw [ref_pl l1 (show a < 2 ^ 31 by omega), ref_pl l2 (show b < 2 ^ 31 by omega), ref_sz l1 (show a < 2 ^ 31 by omega), ref_sz l2 (show b < 2 ^ 31 by omega)]
    refine nm_e (nm_e (nm_e (nm_e (nm_r (e' := nI (min p.2.length q.2.length)) ?_ ?_))))
    · by_cases c : q.2.length < p.2.length
      · rw [if_pos (by (first | omega | (simp (disch := omega) only [Int32.le_iff_toInt_le, Int32.lt_iff_toInt_lt, z_eq, z_in, nI_toInt, z_cl, z_m1, z_sg, z_255, Int32.reduceToInt] <;> omega) | (simp only [Int32.le_iff_toInt_le, Int32.lt_iff_toInt_lt, z_eq, z_in, z_add, z_sub, z_mul, z_neg, z_nI, z_cl, z_sg, z_255, z_lit, Int32.reduceToInt] <;> omega))), Nat.min_eq_right (by omega)]
      · rw [if_neg (by (first | omega | (simp (disch := omega) only [Int32.le_iff_toInt_le, Int32.lt_iff_toInt_lt, z_eq, z_in, nI_toInt, z_cl, z_m1, z_sg, z_255, Int32.reduceToInt] <;> omega) | (simp only [Int32.le_iff_toInt_le, Int32.lt_iff_toInt_lt, z_eq, z_in, z_add, z_sub, z_mul, z_neg, z_nI, z_cl, z_sg, z_255, z_lit, Int32.reduceToInt] <;> omega))), Nat.min_eq_left (by omega)]
    refine lp_V_compareValues_56 (fun l0 l1 l2 l3 l4 l5 l6 l7 l8 l9 l10 y => r = l1 ∧ r' = l3 ∧ nI p.2.length = l5 ∧ nI q.2.length = l6 ∧ nI a = l7 ∧ nI b = l8 ∧ nI (min p.2.length q.2.length) = l9 ∧ x = y ∧ ∃ c, nI c = l10 ∧ c ≤ p.2.length ∧ c ≤ q.2.length ∧ ∀ i, i < c → p.2.getD i 0 = q.2.getD i 0) (fun _ _ _ _ _ _ _ _ _ _ l10 _ => 256 - l10.toNatClampNeg) ?_ _ _ _ _ _ _ _ _ _ _ _ _ ⟨rfl, rfl, rfl, rfl, rfl, rfl, rfl, rfl, 0, rfl, Nat.zero_le _, Nat.zero_le _, fun i hi => absurd hi (Nat.not_lt_zero _)⟩
    rintro Q l0 l1 l2 l3 l4 l5 l6 l7 l8 l9 l10 y ⟨rfl, rfl, rfl, rfl, rfl, rfl, rfl, rfl, c, rfl, c1, c2, c3⟩ ih
    have ek : cmpV 3 p q = cmpT p.2 q.2 := rfl
    rw [ek] at k
    unfold cmpT at k
    unfold j_V_compareValues_56
    by_cases cc : c < p.2.length ∧ c < q.2.length
    · have r1 := rf_rd g2 g4 g5 cc.1
      have r2 := rf_rd d2 d4 d5 cc.2
      refine br_f (by (first | omega | (simp (disch := omega) only [Int32.le_iff_toInt_le, Int32.lt_iff_toInt_lt, z_eq, z_in, nI_toInt, z_cl, z_m1, z_sg, z_255, Int32.reduceToInt] <;> omega) | (simp only [Int32.le_iff_toInt_le, Int32.lt_iff_toInt_lt, z_eq, z_in, z_add, z_sub, z_mul, z_neg, z_nI, z_cl, z_sg, z_255, z_lit, Int32.reduceToInt] <;> omega))) ⟨r1.2, r2.2, ?_⟩
      rw [r1.1, r2.1]
      by_cases e : p.2.getD c 0 = q.2.getD c 0
      · refine br_t (by rw [e]) ?_
        rw [nI_1]
        refine ih _ _ _ _ _ _ _ _ _ _ _ _ ⟨rfl, rfl, rfl, rfl, rfl, rfl, rfl, rfl, c + 1, rfl, by omega, by omega, fun i hi => ?_⟩ (by rw [nI_clamp (by omega), nI_clamp (by omega)]; omega)
        by_cases z : i = c
        · rw [z]; exact e
        · exact c3 i (by omega)
      · refine br_f (fun z => e (sg_in2 (g1.2 _ cc.1) (d1.2 _ cc.2) z)) ⟨r1.2, r2.2, ?_⟩
        have ec := cpl_is c1 c2 c3 (Or.inr (Or.inr e))
        rw [← ec, if_pos cc] at k
        have by1 : ∀ z : Int32, 0 ≤ z ∧ z ≤ 255 → z.toInt8.toInt32 &&& 255 = z := fun z hz => by
          have e : ∀ n, n < 256 → (nI n).toInt8.toInt32 &&& 255 = nI n := by decide +kernel
          have := e _ (uI_by hz)
          rw [nI_uI] at this
          exact this
        rw [by1 _ (g1.2 _ cc.1), by1 _ (d1.2 _ cc.2)]
        exact k
    · refine br_t (by (first | omega | (simp (disch := omega) only [Int32.le_iff_toInt_le, Int32.lt_iff_toInt_lt, z_eq, z_in, nI_toInt, z_cl, z_m1, z_sg, z_255, Int32.reduceToInt] <;> omega) | (simp only [Int32.le_iff_toInt_le, Int32.lt_iff_toInt_lt, z_eq, z_in, z_add, z_sub, z_mul, z_neg, z_nI, z_cl, z_sg, z_255, z_lit, Int32.reduceToInt] <;> omega))) ?_
      have ec := cpl_is c1 c2 c3 (by omega)
      rw [← ec, if_neg cc] at k
      exact k
  · have hv' : RfC x r ty v p := ⟨hv.1, fun z => absurd z c3⟩
    have hw' : RfC x r ty w q := ⟨hw.1, fun z => absurd z c3⟩
    have := c_compare hty hv' hw' k
    unfold wp_V_compareValues at this
    have n3 : ¬ nI ty = 3 := by (first | omega | (simp (disch := omega) only [Int32.le_iff_toInt_le, Int32.lt_iff_toInt_lt, z_eq, z_in, nI_toInt, z_cl, z_m1, z_sg, z_255, Int32.reduceToInt] <;> omega) | (simp only [Int32.le_iff_toInt_le, Int32.lt_iff_toInt_lt, z_eq, z_in, z_add, z_sub, z_mul, z_neg, z_nI, z_cl, z_sg, z_255, z_lit, Int32.reduceToInt] <;> omega))
    exact br_f n3 (this.2 n3)
