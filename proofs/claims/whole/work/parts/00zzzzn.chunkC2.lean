/-! chunks of the class: all pages -/
def okI (ty : Nat) (E : List SEn) (i : Nat) : Prop := (ty = 0 → (pvI E i).1 = 0 ∨ (pvI E i).1 = 1) ∧ (ty = 3 → okT (pvI E i).2) ∧ (ty ≠ 3 → (en E i).2.2.2.2 = [])
theorem okP_of {ty md : Nat} {E : List SEn} {es Z : List Nat} (hZ : ∀ i, i ∈ Z → okI ty E i) (h : ∀ i, i ∈ es → i ∈ Z) (hl : es.length ≤ 2000) : okP ty (pvs E (vs E md es)) := by
  have pl := pvs_len (E := E) (l := vs E md es)
  have vle := vs_le (E := E) (md := md) (es := es)
  refine ⟨by omega, fun k hk => ?_⟩
  have e : (pvs E (vs E md es)).getD k (0, []) = pvI E ((vs E md es).getD k 0) := pvd_pvq (by omega)
  have q := hZ _ (h _ (List.mem_filter.mp (getD_mem (B := vs E md es) (i := k) (by omega))).1)
  rw [e]
  exact ⟨q.1, q.2.1⟩
theorem TbI.tk {x y : St} {t b : Nat} (htb : TB t b) (h : TbI x t b) (f : FTk x y) : TbI y t b := by
  obtain ⟨h1, h2, h3, h4, h5, h6, h7, h8, h9⟩ := h
  have tb : t = 55 ∧ b = 58 ∨ t = 58 ∧ b = 55 := htb
  have fi : ∀ u k, u ≠ 45 → fI y u k = fI x u k := fun u k hu => f.1 u k (fun z => hu z.1)
  exact ⟨(f.2.2.1 45 3 id (fun z => z.1.elim)).trans h1, (f.2.2.1 45 4 id (fun z => z.1.elim)).trans h2, fun i hi => by rw [f.row (by decide) (by decide)]; exact h3 i hi, (fi _ _ (by omega)).trans h4, (fi _ _ (by omega)).trans h5, (fi _ _ (by omega)).trans h6, (fi _ _ (by omega)).trans h7, (fi _ _ (by omega)).trans h8, (fi _ _ (by omega)).trans h9⟩
theorem Snk.tk {x y : St} {s : Nat} {B : List Nat} (hs : SnkId s) (hK : SkS x) (f : FTk x y) (h : Snk x s B) : Snk y s B :=
  h.fr hK hs f (fun k _ z => (snk45 hs).1 z.1) id id (fun q hq z => by unfold skRow at hq; omega) (fun _ z => z.elim)
theorem SkS.tk {x y : St} (h : SkS x) (f : FTk x y) : SkS y := fun s hs => by
  obtain ⟨h1, q, h2, h3, h4, h5, h6, h7⟩ := h s hs
  have er : ∀ t, SnkId t → fR y t 0 = fR x t 0 := fun t ht => f.2.2.1 t 0 id (fun z => z.1.elim)
  have eq := f.2.2.2.1 q (Or.inr (Or.inl ⟨s, hs, h2⟩)) (fun z => by unfold skRow at h3; omega) (fun _ z => z.elim)
  refine ⟨(f.1 s 3 (fun z => (snk45 hs).1 z.1)).trans h1, q, (er s hs).trans h2, h3, ?_, ?_, ?_, fun t ht z => h7 t ht ((er t ht).symm.trans z)⟩
  · show 512 ≤ y.2.2.2.2.2 q; rw [eq.2]; exact h4
  · show y.2.2.2.2.2 q ≤ _; rw [eq.2]; exact h5
  · show sb_Fit (y.2.2.2.1 q); rw [eq.1]; exact h6
theorem Caps.tk {x y : St} {κ : Nat → Nat} (hK : SkS x) (h : Caps x κ) (f : FTk x y) : Caps y κ := fun s hs => by
  obtain ⟨q, h1, h2⟩ := h s hs
  obtain ⟨-, q', h3, h4, -⟩ := hK s hs
  have e : q' = q := by rw [h3] at h1; injection h1
  subst e
  have eq := f.2.2.2.1 q' (Or.inr (Or.inl ⟨s, hs, h1⟩)) (fun z => by unfold skRow at h4; omega) (fun _ z => z.elim)
  refine ⟨q', (f.2.2.1 s 0 id (fun z => z.1.elim)).trans h1, ?_⟩
  show y.2.2.2.2.2 q' = _
  rw [eq.2]; exact h2
section
variable {s sc c f ty mr md most R : Nat} {E : List SEn} {VL : Nat → Int64} {Z : List Nat} {Bq : List (List Nat)}
theorem k_chunkL (hs : SnkId s) (hsn : s ≠ 52 ∧ s ≠ 55 ∧ s ≠ 58) (hty : ty < 4) (hmr : mr ≤ 17) (hmd : md ≤ 17) (hm : most ≤ 1000) (hR : R ≤ 2000) (hZ : ∀ i, i ∈ Z → okI ty E i) (hHq : ∀ r, r ∈ Bq → HdI E r) (hZq : ∀ i, i ∈ Bq.flatten → i ∈ Z) :
    ∀ d (A : List (List Nat)) L κ t b B l9 l11 pg g, A.length ≤ d → TB t b → (∀ t, SnkId t → κ t ≤ roomOf t) → LoHi E VL ty md L l9 l11 → (∀ i, i ∈ L → i ∈ Z) → (∀ r, r ∈ A → HdI E r) → (∀ i, i ∈ A.flatten → i ∈ Z) → (∀ r, r ∈ A → txI E r ≤ 20000) → g + A.length ≤ R → L.length + A.flatten.length ≤ 10000 → pg ≤ g →
    ∃ κ' t' b' l9' l11', Kle κ κ' ∧ TB t' b' ∧ (∀ z, chX ty mr md most d (A.map (List.map (en E))) = some z → (B ++ z.1).length ≤ roomOf s ∨ A.length = 0 → LoHi E VL ty md (L ++ A.flatten) l9' l11') ∧ ∀ κ2, Kle κ' κ2 → ∀ (x : St) (post : Int32 → St → Prop) (l5 : Int32) kb nb, SkS x → Caps x κ → CkI x s sc c f ty mr md E VL Z → TbI x t b → Chn (fA x 41) (fA x 61 c) (A ++ Bq).flatten → Snk x s B → KP κ ≤ kb + KP κ2 → NP κ ≤ nb + NP κ2 →
      (∀ y, SkS y → Caps y κ' → FCk s x y → TbI y t' b' → fI y s 5 = 0 → fI y s 6 = 0 → (∀ C m, chX ty mr md most d (A.map (List.map (en E))) = some (C, m) → roomOf s < (B ++ C).length) → post 0 y) →
      (∀ y k n C m l13 l14, chX ty mr md most d (A.map (List.map (en E))) = some (C, m) → SkS y → Caps y κ' → FCk s x y → CkI y s sc c f ty mr md E VL Z → TbI y t' b' → Chn (fA y 41) (fA y 61 c) Bq.flatten → (∀ u, u ≠ c → fA y 61 u = fA x 61 u) → Snk y s (B ++ C) → ((B ++ C).length ≤ roomOf s ∨ A.length = 0) → KP κ' ≤ k + KP κ2 → NP κ' ≤ n + NP κ2 → j_Wrt_putChunk_200 post 45 (nI c) (nI R) (nI most) (nI ty) l5 (nI (pg + m)) (nI (L ++ A.flatten).length) (nI (vs E md (L ++ A.flatten)).length) l9' l11' l13 l14 k n y) →
      wl_Wrt_putChunk_49 post (d + 1) 45 (nI c) (nI R) (nI most) (nI ty) l5 (nI pg) (nI L.length) (nI (vs E md L).length) l9 l11 (nI A.length) (nI g) kb nb x := by
  intro d
  induction d with
  | zero =>
    intro A L κ t b B l9 l11 pg g hA htb hκ hLo hLZ hHA hAZ hAt hg hLl hpg
    have eA : A = [] := List.length_eq_zero_iff.mp (by omega)
    subst eA
    refine ⟨κ, t, b, l9, l11, Kle.refl hκ, htb, fun _ _ _ => by rw [List.flatten_nil, List.append_nil]; exact hLo, fun κ2 m2 x post l5 kb nb hK hC hI hT hCh hB hk hn p0 p1 => ?_⟩
    have j := p1 x kb nb [] 0 (nI 0) (nI g) rfl hK hC (FX.refl x) hI hT hCh (fun _ _ => rfl) (by rw [List.append_nil]; exact hB) (Or.inr rfl) hk hn
    rw [List.flatten_nil, List.append_nil, Nat.add_zero] at j
    unfold wl_Wrt_putChunk_49 j_Wrt_putChunk_49
    by_cases z : nI R ≤ nI g
    · exact br_t z j
    · exact br_f z (br_t (by decide) j)
  | succ d ih =>
    intro A L κ t b B l9 l11 pg g hA htb hκ hLo hLZ hHA hAZ hAt hg hLl hpg
    by_cases c0 : A.length = 0
    · have eA : A = [] := List.length_eq_zero_iff.mp c0
      subst eA
      refine ⟨κ, t, b, l9, l11, Kle.refl hκ, htb, fun _ _ _ => by rw [List.flatten_nil, List.append_nil]; exact hLo, fun κ2 m2 x post l5 kb nb hK hC hI hT hCh hB hk hn p0 p1 => ?_⟩
      have j := p1 x kb nb [] 0 (nI 0) (nI g) rfl hK hC (FX.refl x) hI hT hCh (fun _ _ => rfl) (by rw [List.append_nil]; exact hB) (Or.inr rfl) hk hn
      rw [List.flatten_nil, List.append_nil, Nat.add_zero] at j
      unfold wl_Wrt_putChunk_49 j_Wrt_putChunk_49
      by_cases z : nI R ≤ nI g
      · exact br_t z j
      · exact br_f z (br_t (by decide) j)
    · have hfl : flN E ty most true 0 0 A = flX most true 0 0 (A.map (List.map (en E))) := flN_map A true 0 0 (fun h3 r hr i hi => (hZ i (hAZ i (List.mem_flatten.mpr ⟨r, hr, hi⟩))).2.2 h3)
      have hlen : (A.map (List.map (en E))).length = A.length := List.length_map _
      have b1 : ¬ nI R ≤ nI g := by (first | omega | (simp (disch := omega) only [Int32.le_iff_toInt_le, Int32.lt_iff_toInt_lt, z_eq, z_in, nI_toInt, z_cl, z_m1, z_sg, z_255, Int32.reduceToInt] <;> omega) | (simp only [Int32.le_iff_toInt_le, Int32.lt_iff_toInt_lt, z_eq, z_in, z_add, z_sub, z_mul, z_neg, z_nI, z_cl, z_sg, z_255, z_lit, Int32.reduceToInt] <;> omega))
      have b2 : ¬ nI A.length ≤ 0 := by (first | omega | (simp (disch := omega) only [Int32.le_iff_toInt_le, Int32.lt_iff_toInt_lt, z_eq, z_in, nI_toInt, z_cl, z_m1, z_sg, z_255, Int32.reduceToInt] <;> omega) | (simp only [Int32.le_iff_toInt_le, Int32.lt_iff_toInt_lt, z_eq, z_in, z_add, z_sub, z_mul, z_neg, z_nI, z_cl, z_sg, z_255, z_lit, Int32.reduceToInt] <;> omega))
      have all2 : ∀ r, r ∈ A ++ Bq → HdI E r := fun r hr => (List.mem_append.mp hr).elim (hHA r) (hHq r)
      have sub : ∀ i, i ∈ (A ++ Bq).flatten → i ∈ Z := fun i hi => by
        rw [List.flatten_append] at hi
        exact (List.mem_append.mp hi).elim (hAZ i) (hZq i)
      by_cases ck : flN E ty most true 0 0 A = 0
      · have en1 : chX ty mr md most (d + 1) (A.map (List.map (en E))) = none := by
          simp only [chX]
          rw [if_neg (by omega), if_pos (by omega)]
        refine ⟨κ, t, b, l9, l11, Kle.refl hκ, htb, fun z hz _ => absurd (en1.symm.trans hz) (by simp), fun κ2 m2 x post l5 kb nb hK hC hI hT hCh hB hk hn p0 p1 => ?_⟩
        unfold wl_Wrt_putChunk_49 j_Wrt_putChunk_49
        refine br_f b1 (br_f b2 ?_)
        refine c_fill (E := E) (A := A) (B := Bq) hI.1 hI.2.2.1 hI.2.2.2.1 hty (by omega) hm (by omega) (hI.2.2.2.2.2.2.2.1.sub sub) hCh all2 (fun y y1 y2 y3 y4 y5 => ?_)
        rw [ck]
        have hSy := Snk.tk hs hK y1 hB
        exact ⟨fun z => absurd rfl z, fun _ => p0 y (hK.tk y1) (hC.tk hK y1) (y1.ck hs) (hT.tk htb y1) hSy.1 hSy.2.1 (fun C m hz => absurd (en1.symm.trans hz) (by simp))⟩
      · have kle := flX_le (most := most) (A.map (List.map (en E))) true 0 0
        have hok := flX_ok hm (A.map (List.map (en E))) true 0 0 (by decide) (by decide) (fun _ => ⟨rfl, rfl, fun r hr => by
          obtain ⟨q, hq, rfl⟩ := List.mem_map.mp hr
          rw [← txI_map]; exact hAt q hq⟩)
        rw [← hfl, hlen] at kle
        rw [← hfl, ← List.map_take, ← List.map_flatten, List.length_map, ← txI_map] at hok
        generalize hk0 : flN E ty most true 0 0 A = k0 at *
        have tkA : A = A.take k0 ++ A.drop k0 := (List.take_append_drop _ _).symm
        have fA' : A.flatten = (A.take k0).flatten ++ (A.drop k0).flatten := by rw [← List.flatten_append, ← tkA]
        have esZ : ∀ i, i ∈ (A.take k0).flatten → i ∈ Z := fun i hi => hAZ i (by rw [fA']; exact List.mem_append_left _ hi)
        have drZ : ∀ i, i ∈ (A.drop k0).flatten → i ∈ Z := fun i hi => hAZ i (by rw [fA']; exact List.mem_append_right _ hi)
        have fl2 : A.flatten.length = (A.take k0).flatten.length + (A.drop k0).flatten.length := by rw [fA', List.length_append]
        have dl : (A.drop k0).length = A.length - k0 := List.length_drop ..
        have vle := vs_le (E := E) (md := md) (es := L)
        generalize hes : (A.take k0).flatten = es at *
        have ech : chX ty mr md most (d + 1) (A.map (List.map (en E))) = (match chX ty mr md most d ((A.drop k0).map (List.map (en E))) with | none => none | some (C, m) => some (pgX ty mr md (es.map (en E)) ++ C, m + 1)) := by
          simp only [chX]
          rw [if_neg (by omega), ← hfl, if_neg ck, ← List.map_take, ← List.map_drop, ← List.map_flatten, hes]
          cases chX ty mr md most d ((A.drop k0).map (List.map (en E))) <;> rfl
        obtain ⟨κ1, m1, t1, b1', htb1, f1⟩ := k_turn (κ := κ) (s := s) (t := t) (b := b) (sc := sc) (c := c) (f := f) (ty := ty) (mr := mr) (md := md) (E := E) (VL := VL) (Z := Z) (es := es) (B := B) hs hsn htb hty (okP_of hZ esZ (by omega)) (by omega) (Nat.le_trans (oF_tx es) (by omega)) hmr hmd esZ hκ
        obtain ⟨l9', l11', hLo', lhr⟩ := lh_step (Z := Z) hty hLo (fun i hi => (hZ i hi).2.1) hLZ esZ (by omega) (by omega)
        by_cases cv : roomOf s < (B ++ pgX ty mr md (es.map (en E))).length
        · refine ⟨κ1, t1, b1', l9, l11, m1, htb1, fun z hz hzl => ?_, fun κ2 m2 x post l5 kb nb hK hC hI hT hCh hB hk hn p0 p1 => ?_⟩
          · exfalso
            rw [ech] at hz
            cases e : chX ty mr md most d ((A.drop k0).map (List.map (en E))) with
            | none => rw [e] at hz; exact absurd hz (by simp)
            | some w =>
              rw [e] at hz
              simp only [Option.some.injEq] at hz
              rw [← hz] at hzl
              simp only [List.length_append] at hzl cv
              omega
          · unfold wl_Wrt_putChunk_49 j_Wrt_putChunk_49
            refine br_f b1 (br_f b2 ?_)
            refine c_fill (E := E) (A := A) (B := Bq) hI.1 hI.2.2.1 hI.2.2.2.1 hty (by omega) hm (by omega) (hI.2.2.2.2.2.2.2.1.sub sub) hCh all2 (fun y y1 y2 y3 y4 y5 => ?_)
            rw [hk0] at y2 y3 y5 ⊢
            rw [hes] at y2
            refine ⟨fun _ => nm_e ?_, fun z => absurd (nI_inj (b := 0) (by omega) (by decide) z) ck⟩
            refine f1 κ2 m2 y _ kb nb (hK.tk y1) (hC.tk hK y1) (hI.k hs hK (y1.ck hs)) y2 (hT.tk htb y1) (Snk.tk hs hK y1 hB) hk hn (fun z k n z1 z2 z3 z4 z5 z6 z7 z8 z9 z10 z11 z12 => ?_)
            refine ⟨s, z4.2.1, ?_⟩
            have ov : fI z s 2 = 1 := by
              rcases z7.2.2 with w | w
              · omega
              · exact w.2.1
            refine br_f (by rw [ov]; decide) (p0 z z1 z2 (FCk.trans hs (y1.ck hs) z3) z5 z7.1 z7.2.1 (fun C m hz => ?_))
            rw [ech] at hz
            cases e : chX ty mr md most d ((A.drop k0).map (List.map (en E))) with
            | none => rw [e] at hz; exact absurd hz (by simp)
            | some w =>
              rw [e] at hz
              simp only [Option.some.injEq, Prod.mk.injEq] at hz
              rw [← hz.1]
              simp only [List.length_append] at cv ⊢
              omega
        · have dA := ih (A.drop k0) (L ++ es) κ1 t1 b1' (B ++ pgX ty mr md (es.map (en E))) l9' l11' (pg + 1) (g + 1) (by omega) htb1 (fun t ht => (m1 t ht).2) hLo' (fun i hi => (List.mem_append.mp hi).elim (hLZ i) (esZ i)) (fun r hr => hHA r (List.mem_of_mem_drop hr)) drZ (fun r hr => hAt r (List.mem_of_mem_drop hr)) (by omega) (by rw [List.length_append]; omega) (by omega)
          obtain ⟨κ3, t3, b3, l9f, l11f, m3, htb3, lof, f3⟩ := dA
          have eL : L ++ es ++ (A.drop k0).flatten = L ++ A.flatten := by rw [List.append_assoc, ← fA']
          rw [eL] at lof f3
          refine ⟨κ3, t3, b3, l9f, l11f, m1.trans m3, htb3, fun z hz hzl => ?_, fun κ2 m2 x post l5 kb nb hK hC hI hT hCh hB hk hn p0 p1 => ?_⟩
          · rw [ech] at hz
            cases e : chX ty mr md most d ((A.drop k0).map (List.map (en E))) with
            | none => rw [e] at hz; exact absurd hz (by simp)
            | some w =>
              rw [e] at hz
              simp only [Option.some.injEq] at hz
              refine lof w e (Or.inl ?_)
              rw [← hz] at hzl
              simp only [List.length_append] at hzl ⊢
              omega
          · unfold wl_Wrt_putChunk_49 j_Wrt_putChunk_49
            refine br_f b1 (br_f b2 ?_)
            refine c_fill (E := E) (A := A) (B := Bq) hI.1 hI.2.2.1 hI.2.2.2.1 hty (by omega) hm (by omega) (hI.2.2.2.2.2.2.2.1.sub sub) hCh all2 (fun y y1 y2 y3 y4 y5 => ?_)
            rw [hk0] at y2 y3 y5 ⊢
            rw [hes] at y2
            refine ⟨fun _ => nm_r (nI_sub y5) ?_, fun z => absurd (nI_inj (b := 0) (by omega) (by decide) z) ck⟩
            refine f1 κ2 (m3.trans m2) y _ kb nb (hK.tk y1) (hC.tk hK y1) (hI.k hs hK (y1.ck hs)) y2 (hT.tk htb y1) (Snk.tk hs hK y1 hB) hk hn (fun z k n z1 z2 z3 z4 z5 z6 z7 z8 z9 z10 z11 z12 => ?_)
            refine ⟨s, z4.2.1, ?_⟩
            have ov : fI z s 2 = 0 := by
              rcases z7.2.2 with w | w
              · exact w.2.2.2.1
              · omega
            refine br_t ov ?_
            rw [nI_1]
            refine lhr z post _ (nI c) (nI R) (nI most) l5 (nI (pg + 1)) (nI (A.length - k0)) (nI g) (nI k0) L.length k n z4.2.2.1 z4.2.2.2.2.2.2.2.1 z4.2.2.2.2.2.2.2.2 z8 z9 z10 ?_
            rw [nI_1]
            have q41 : fA z 41 = fA y 41 := (st41.ck (by decide) hs (hK.tk y1) z3).1
            have go := f3 κ2 m2 z post l5 k n z1 z2 z4 z5 (by rw [q41, z6]; exact y3) z7 z11 z12 (fun w w1 w2 w3 w4 w5 w6 w7 => p0 w w1 w2 (FCk.trans hs (FCk.trans hs (y1.ck hs) z3) w3) w4 w5 w6 (fun C m hz => ?_)) (fun w kk nn C m l13 l14 w1 w2 w3 w4 w5 w6 w7 w8 w9 w10 w11 w12 => ?_)
            · rw [List.length_append, vs_app2, List.length_append, dl] at go
              exact go
            · rw [ech] at hz
              cases e : chX ty mr md most d ((A.drop k0).map (List.map (en E))) with
              | none => rw [e] at hz; exact absurd hz (by simp)
              | some w =>
                rw [e] at hz
                obtain ⟨w1, w2⟩ := w
                simp only [Option.some.injEq, Prod.mk.injEq] at hz
                have := w7 w1 w2 e
                rw [← hz.1, ← List.append_assoc]
                exact this
            · have j := p1 w kk nn (pgX ty mr md (es.map (en E)) ++ C) (m + 1) l13 l14 (by rw [ech, w1]) w2 w3 (FCk.trans hs (FCk.trans hs (y1.ck hs) z3) w4) w5 w6 w7 (fun u hu => by rw [w8 u hu, z6]; exact y4 u hu) (by rw [← List.append_assoc]; exact w9) (Or.inl (by
                rcases w10 with q | q
                · rw [← List.append_assoc]; exact q
                · have eD : A.drop k0 = [] := List.length_eq_zero_iff.mp q
                  rw [eD, List.map_nil] at w1
                  have : C = [] := by
                    cases d with
                    | zero => simp only [chX, Option.some.injEq, Prod.mk.injEq] at w1; exact w1.1.symm
                    | succ d => simp only [chX, List.length_nil, if_true, Option.some.injEq, Prod.mk.injEq] at w1; exact w1.1.symm
                  rw [this, List.append_nil]
                  omega)) w11 w12
              rw [show pg + (m + 1) = pg + 1 + m by omega] at j
              exact j
end
