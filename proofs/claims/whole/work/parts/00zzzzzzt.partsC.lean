/-! the Opener reads texts in parts -/
theorem getD_tk {α : Type} {A : List α} {c i : Nat} {d : α} (h : i < c) : (A.take c).getD i d = A.getD i d := by
  rw [List.getD_eq_getElem?_getD, List.getElem?_take_of_lt h, List.getD_eq_getElem?_getD]
section
variable {x y z : St} {T : Nat → Nat} {n st p b : Nat}
theorem k_tx2 {post : St → Prop} {m : Nat} (S : Sr 104 x T n p st) (hm : m ≤ 1000) (hv : fI x 96 9 = nI m) (h15 : fI x 96 15 = 0) (h14 : fI x 96 14 = nI b) (hb : n ≤ b) (hb2 : b ≤ 100000)
    (pe : ∀ e y, tx2 T m st p = .error e → FrVC b x y → FlC 104 y e → post y)
    (pk : ∀ P q y, tx2 T m st p = .ok (P, q) → FrVC b x y → Sr 104 y T n q st → P.length = m → oF P P.length ≤ 20000 → VsC y 101 0 (b + oF P P.length) 3 P → fI y 96 15 = nI (oF P P.length) → fI y 96 14 = nI (b + oF P P.length) → fI y 96 13 = fI x 96 13 → fA y 94 = fA x 94 → fL y 95 = fL x 95 → post y) : wp_Opn_readTextsInParts post 96 x := by
  have hS := S.le
  have L101 : fN x 101 = 2000 := S.1.1 101 (by decide)
  have L100 : fN x 100 = 2000 := S.1.1 100 (by decide)
  have f36 : ∀ (y : St) (e : Nat), FrVC b x y → FlC 104 y e → tx2 T m st p = .error e → ∀ l1 l3, ∃ nn, wl_Opn_readTextsInParts_36 post nn 96 l1 l3 y := fun y e y1 y2 y3 l1 l3 => by
    refine ⟨1, ?_⟩
    unfold wl_Opn_readTextsInParts_36 j_Opn_readTextsInParts_36
    exact ⟨fun _ => pe e y y3 y1 y2, fun _ => ⟨fun _ => pe e y y3 y1 y2, fun z => absurd z y2.ne⟩⟩
  unfold wp_Opn_readTextsInParts
  rw [show stC 96 8 = 101 from rfl, show stC 96 2 = 104 from rfl, show stC 96 7 = 100 from rfl, hv]
  refine k_cde so4 S (by omega) L101 (fun e y y1 y2 y3 => ?_) (fun C q y y1 y2 Sy y3 => ?_)
  · exact k_code0 y3.ne (f36 y e (FrVC.cd (Or.inr rfl) y2) y3 (by unfold tx2; rw [y1]) _ _)
  rw [(y2.ii (by decide)).trans hv]
  refine k_cde so4 Sy (by omega) ((y2.len 100).trans L100) (fun e z z1 z2 z3 => ?_) (fun M q1 z z1 z2 Sz z3 => ?_)
  · exact f36 z e ((FrVC.cd (Or.inr rfl) y2).trans (FrVC.cd (Or.inl rfl) z2)) z3 (by unfold tx2; rw [y1]; simp only; rw [z1]) _ _
  have et : tx2 T m st p = ftxF T st C M m [] q1 := by unfold tx2; rw [y1]; simp only; rw [z1]
  have fz : FrVC b x z := (FrVC.cd (Or.inr rfl) y2).trans (FrVC.cd (Or.inl rfl) z2)
  refine lp_Opn_readTextsInParts_36 (fun a0 a1 a2 u => 96 = a0 ∧ FrVC b x u ∧ fI u 96 13 = fI x 96 13 ∧ fA u 94 = fA x 94 ∧ fL u 95 = fL x 95 ∧ ∃ j, nI j = a2 ∧ j ≤ m ∧ ((∃ e, FlC 104 u e ∧ tx2 T m st p = .error e) ∨ ∃ acc pp, acc.length = j ∧ oF acc acc.length ≤ 20000 ∧ fI u 96 15 = nI (oF acc acc.length) ∧ fI u 96 14 = nI (b + oF acc acc.length) ∧ Sr 104 u T n pp st ∧ VsC u 101 0 (b + oF acc acc.length) 3 acc ∧ RfP u (b + oF acc acc.length) 3 a1 (pvd acc (acc.length - 1)) ∧ (∀ i, j ≤ i → i < m → fL u 101 i = C.getD i 0) ∧ (∀ i, i < m → fL u 100 i = M.getD i 0) ∧ tx2 T m st p = ftxF T st C M (m - j) acc pp)) (fun _ _ a2 _ => m - a2.toNatClampNeg) ?_ _ _ _ _ ⟨rfl, fz, (z2.ii (by decide)).trans (y2.ii (by decide)), (z2.aa (by decide)).trans (y2.aa (by decide)), (z2.ll (by decide)).trans (y2.ll (by decide)), 0, rfl, Nat.zero_le _, Or.inr ⟨[], q1, rfl, Nat.zero_le _, (z2.ii (by decide)).trans ((y2.ii (by decide)).trans h15), (z2.ii (by decide)).trans ((y2.ii (by decide)).trans h14), Sz, fun i hi => absurd hi (Nat.not_lt_zero _), ⟨fun w => absurd rfl w, fun _ => ⟨okT_nil, 0, rfl, Nat.zero_le _, fun j hj => absurd hj (Nat.not_lt_zero _)⟩⟩, fun i _ hi => by rw [z2.ll (by decide)]; exact y3 i hi, z3, et⟩⟩
  rintro Q a0 a1 a2 u ⟨rfl, u1, u13, u94, u95, j, rfl, j1, u2⟩ ih
  have lu : fN u 101 = 2000 := (u1.1.len 101).trans L101
  have lu0 : fN u 100 = 2000 := (u1.1.len 100).trans L100
  have lu82 : fN u 82 = 120255 := (u1.1.len 82).trans (S.1.1 82 (by decide))
  unfold j_Opn_readTextsInParts_36
  rw [show stC 96 8 = 101 from rfl, show stC 96 2 = 104 from rfl, show stC 96 7 = 100 from rfl, (u1.1.ii (by decide)).trans hv]
  rcases u2 with ⟨e, f1, f2⟩ | ⟨acc, pp, q0, q1', q2, q14, Su, q3, qb, q4, q6, q5⟩
  · exact ⟨fun _ => pe e u f2 u1 f1, fun _ => ⟨fun _ => pe e u f2 u1 f1, fun w => absurd w f1.ne⟩⟩
  · by_cases cj : j < m
    · refine br_f (by (first | omega | (simp (disch := omega) only [Int32.le_iff_toInt_le, Int32.lt_iff_toInt_lt, z_eq, z_in, nI_toInt, z_cl, z_m1, z_sg, z_255, Int32.reduceToInt] <;> omega) | (simp only [Int32.le_iff_toInt_le, Int32.lt_iff_toInt_lt, z_eq, z_in, z_add, z_sub, z_mul, z_neg, z_nI, z_cl, z_sg, z_255, z_lit, Int32.reduceToInt] <;> omega))) (bn_t Su.h0 ⟨by rw [lu]; exact vp_in_nI (by omega) (by decide), ?_⟩)
      obtain ⟨d, hd⟩ : ∃ d, m - j = d + 1 := ⟨m - j - 1, by omega⟩
      rw [hd] at q5
      obtain ⟨c, hc⟩ : ∃ c, c = uL (C.getD j 0) := ⟨_, rfl⟩
      obtain ⟨g, hg⟩ : ∃ g, g = uL (M.getD j 0) := ⟨_, rfl⟩
      have c64 : c < 2 ^ 64 := by rw [hc]; exact uL_lt _
      have g64 : g < 2 ^ 64 := by rw [hg]; exact uL_lt _
      obtain ⟨k1, a, k2, k3, k4⟩ := qb.2 rfl
      have lb := k1.1
      generalize hpv : pvd acc (acc.length - 1) = pv at *
      generalize hB : b + oF acc acc.length = B at *
      have er : ftxF T st C M (d + 1) acc pp = (if pv.2.length < c ∨ 255 < c + g then .error 7 else if st < pp + g then .error 1 else if 20000 < oF acc acc.length + c + g then .error 7 else ftxF T st C M d (acc ++ [(0, pv.2.take c ++ txs T pp g)]) (pp + g)) := by rw [hc, hg, ← q0, ← hpv]; rfl
      have hSu := Su.le
      have hBl : B ≤ 120000 := by omega
      have hBn : n ≤ B := by omega
      refine nm_r (e' := lN c) (by rw [rL_nI (by omega), q4 j (Nat.le_refl _) cj, hc, lN_uL]) ⟨by rw [lu0]; exact vp_in_nI (by omega) (by decide), nm_r (e' := lN g) (by rw [rL_nI (by omega), q6 j cj, hg, lN_uL]) ?_⟩
      have k2' := k2
      subst k2'
      have bad : pv.2.length < c ∨ 255 < c + g → j_Opn_readTextsInParts_105 post Q 96 (lN (256 * a + pv.2.length)) (nI j) (lN c) (lN g) 104 u := fun h => by
        unfold j_Opn_readTextsInParts_105 j_Opn_readTextsInParts_106
        refine r_ck0 7 Su (by decide) (by decide) (fun w w1 w2 => k_let0 w2.ne (br_f w2.ne (pe 7 w ?_ (u1.trans (FrVC.sr w1)) w2)))
        rw [q5, er, if_pos h]
      have nx : ∀ v bf, FrVC b x v → fI v 96 13 = fI x 96 13 → fA v 94 = fA x 94 → fL v 95 = fL x 95 → ((∃ e, FlC 104 v e ∧ tx2 T m st p = .error e) ∨ ∃ acc pp, acc.length = j + 1 ∧ oF acc acc.length ≤ 20000 ∧ fI v 96 15 = nI (oF acc acc.length) ∧ fI v 96 14 = nI (b + oF acc acc.length) ∧ Sr 104 v T n pp st ∧ VsC v 101 0 (b + oF acc acc.length) 3 acc ∧ RfP v (b + oF acc acc.length) 3 bf (pvd acc (acc.length - 1)) ∧ (∀ i, j + 1 ≤ i → i < m → fL v 101 i = C.getD i 0) ∧ (∀ i, i < m → fL v 100 i = M.getD i 0) ∧ tx2 T m st p = ftxF T st C M d acc pp) → Q 96 bf (nI j + 1) v := fun v bf v1 v2 v3 v4 v5 => by
        rw [nI_1]
        exact ih _ _ _ _ ⟨rfl, v1, v2, v3, v4, j + 1, rfl, cj, by rw [show m - (j + 1) = d by omega]; exact v5⟩ (by rw [nI_clamp (by omega), nI_clamp (by omega)]; omega)
      have good : ¬ (pv.2.length < c ∨ 255 < c + g) → j_Opn_readTextsInParts_106 post Q 96 (lN (256 * a + pv.2.length)) (nI j) (lN c) (lN g) 1 104 u := fun h => by
        have c1 : c ≤ pv.2.length := by omega
        have cg : c + g ≤ 255 := by omega
        rw [if_neg h] at er
        unfold j_Opn_readTextsInParts_106
        refine k_ck1 (k_let (b := B) Su g64 hBn (fun e w w1 w2 w3 => br_f w3.ne (pe e w ?_ (u1.trans (FrVC.sr w2)) w3)) (fun _ c2 w w1 Sw w2 => br_t Sw.h0 ?_))
        · rw [q5, er]
          rcases w1 with ⟨a1, -⟩ | ⟨-, a2, a3⟩
          · omega
          · rw [if_pos a2, a3]
        · rw [if_neg (by omega)] at er
          have w82 : fA w 82 = fA u 82 := w1.aa id
          have w14 : fI w 96 14 = nI B := (w1.ii (by decide)).trans q14
          have w15 : fI w 96 15 = nI (oF acc acc.length) := (w1.ii (by decide)).trans q2
          have lw : fN w 82 = 120255 := (w1.len 82).trans lu82
          have lw1 : fN w 101 = 2000 := (w1.len 101).trans lu
          refine nm_r (e' := nI (c + g)) (by rw [lN_add, lN_i]) ?_
          refine k_plc (ref_pl lb (by omega)) ?_
          rw [show stC (stC 96 0) 6 = 82 from rfl, lN_i c, lN_i g, w14, nI_clamp (by omega : a < 2 ^ 31), nI_clamp (by omega : B < 2 ^ 31), nI_clamp (by omega : c < 2 ^ 31), nI_clamp (by omega : g < 2 ^ 31)]
          refine ⟨⟨by (first | omega | (simp (disch := omega) only [Int32.le_iff_toInt_le, Int32.lt_iff_toInt_lt, z_eq, z_in, nI_toInt, z_cl, z_m1, z_sg, z_255, Int32.reduceToInt] <;> omega) | (simp only [Int32.le_iff_toInt_le, Int32.lt_iff_toInt_lt, z_eq, z_in, z_add, z_sub, z_mul, z_neg, z_nI, z_cl, z_sg, z_255, z_lit, Int32.reduceToInt] <;> omega)), by (first | omega | (simp (disch := omega) only [Int32.le_iff_toInt_le, Int32.lt_iff_toInt_lt, z_eq, z_in, nI_toInt, z_cl, z_m1, z_sg, z_255, Int32.reduceToInt] <;> omega) | (simp only [Int32.le_iff_toInt_le, Int32.lt_iff_toInt_lt, z_eq, z_in, z_add, z_sub, z_mul, z_neg, z_nI, z_cl, z_sg, z_255, z_lit, Int32.reduceToInt] <;> omega)), by (first | omega | (simp (disch := omega) only [Int32.le_iff_toInt_le, Int32.lt_iff_toInt_lt, z_eq, z_in, nI_toInt, z_cl, z_m1, z_sg, z_255, Int32.reduceToInt] <;> omega) | (simp only [Int32.le_iff_toInt_le, Int32.lt_iff_toInt_lt, z_eq, z_in, z_add, z_sub, z_mul, z_neg, z_nI, z_cl, z_sg, z_255, z_lit, Int32.reduceToInt] <;> omega)), by omega, by omega, fun i hi => by rw [w82, k4 i (by omega)]; exact fits_sg _⟩, ?_⟩
          intro x9 h9
          have n9 : ∀ r, fN x9 r = fN w r := fun r => by rw [h9]; rfl
          have i9 : ∀ a k, fI x9 a k = fI w a k := fun a k => by rw [h9]; rfl
          have l9 : ∀ r, fL x9 r = fL w r := fun r => by rw [h9]; rfl
          have f9 : fA x9 82 = va_cpy (fA w 82) (fA w 82) a B c := by rw [h9]; exact gW_at
          have a9 : ∀ r, r ≠ 82 → fA x9 r = fA w r := fun r hr => by rw [h9]; exact gW_ne hr
          have F9 : FrVC b w x9 := ⟨by rw [h9]; exact Fg.w (Or.inr (Or.inl rfl)), fun i hi => by rw [f9, pk_cpy_out (Or.inl (by omega))]⟩
          have T9 : ∀ i, i < g → fA x9 82 (pp + i) = (nI (T (pp + i))).toInt8.toInt32 := fun i hi => by rw [f9, pk_cpy_out (Or.inl (by omega))]; exact Sw.1.2.2.2 _ (by have := Sw.le; omega)
          refine k_plc (ref_pl (by omega : g ≤ 255) (by omega : pp < 2 ^ 31)) ?_
          rw [i9, w14, nI_add, nI_clamp (by omega : B + c < 2 ^ 31), nI_clamp (by omega : pp < 2 ^ 31), n9, lw]
          refine ⟨⟨by (first | omega | (simp (disch := omega) only [Int32.le_iff_toInt_le, Int32.lt_iff_toInt_lt, z_eq, z_in, nI_toInt, z_cl, z_m1, z_sg, z_255, Int32.reduceToInt] <;> omega) | (simp only [Int32.le_iff_toInt_le, Int32.lt_iff_toInt_lt, z_eq, z_in, z_add, z_sub, z_mul, z_neg, z_nI, z_cl, z_sg, z_255, z_lit, Int32.reduceToInt] <;> omega)), by (first | omega | (simp (disch := omega) only [Int32.le_iff_toInt_le, Int32.lt_iff_toInt_lt, z_eq, z_in, nI_toInt, z_cl, z_m1, z_sg, z_255, Int32.reduceToInt] <;> omega) | (simp only [Int32.le_iff_toInt_le, Int32.lt_iff_toInt_lt, z_eq, z_in, z_add, z_sub, z_mul, z_neg, z_nI, z_cl, z_sg, z_255, z_lit, Int32.reduceToInt] <;> omega)), by (first | omega | (simp (disch := omega) only [Int32.le_iff_toInt_le, Int32.lt_iff_toInt_lt, z_eq, z_in, nI_toInt, z_cl, z_m1, z_sg, z_255, Int32.reduceToInt] <;> omega) | (simp only [Int32.le_iff_toInt_le, Int32.lt_iff_toInt_lt, z_eq, z_in, z_add, z_sub, z_mul, z_neg, z_nI, z_cl, z_sg, z_255, z_lit, Int32.reduceToInt] <;> omega)), by omega, by omega, fun i hi => by rw [T9 i hi]; exact fits_sg _⟩, ?_⟩
          intro x12 h12
          have n12 : ∀ r, fN x12 r = fN w r := fun r => by rw [h12]; exact n9 r
          have i12 : ∀ a k, fI x12 a k = fI w a k := fun a k => by rw [h12]; exact i9 a k
          have l12 : ∀ r, fL x12 r = fL w r := fun r => by rw [h12]; exact l9 r
          have f12 : fA x12 82 = va_cpy (fA x9 82) (fA x9 82) pp (B + c) g := by rw [h12]; exact gW_at
          have a12 : ∀ r, r ≠ 82 → fA x12 r = fA w r := fun r hr => by rw [h12]; exact (gW_ne hr).trans (a9 r hr)
          have F12 : FrVC b w x12 := F9.trans ⟨by rw [h12]; exact Fg.w (Or.inr (Or.inl rfl)), fun i hi => by rw [f12, pk_cpy_out (Or.inl (by omega))]⟩
          have o12 : ∀ i, i < B → fA x12 82 i = fA u 82 i := fun i hi => by rw [f12, pk_cpy_out (Or.inl (by omega)), f9, pk_cpy_out (Or.inl (by omega)), w82]
          have p12 : ∀ i, i < c → fA x12 82 (B + i) = (pv.2.getD i 0).toInt8.toInt32 := fun i hi => by rw [f12, pk_cpy_out (Or.inl (by omega)), f9, pk_cpy_in (by omega) (by omega), show a + (B + i - B) = a + i by omega, w82, k4 i (by omega)]
          have t12 : ∀ i, i < g → fA x12 82 (B + c + i) = (nI (T (pp + i))).toInt8.toInt32 := fun i hi => by rw [f12, pk_cpy_in (by omega) (by omega), show pp + (B + c + i - (B + c)) = pp + i by omega, T9 i hi]
          clear h12 h9
          have S12 : Sr 104 x12 T n (pp + g) st := ⟨F12.fi Sw.1 hb, (i12 _ _).trans Sw.h0, (i12 _ _).trans Sw.hp, (i12 _ _).trans Sw.hs, Sw.2.2.2.2.1, Sw.2.2.2.2.2⟩
          rw [i12, w14]
          refine k_refc (by omega) (by omega) ?_
          refine ⟨by rw [show stC 96 8 = 101 from rfl, n12, lw1]; exact vp_in_nI (by omega) (by decide), nm_e (nm_e (nm_e ?_))⟩
          rw [show stC 96 8 = 101 from rfl]
          have e14 : fI (setL x12 101 (nI j) (lN (256 * B + (c + g)))) 96 14 = nI B := (i12 _ _).trans w14
          rw [e14, nI_add]
          have e15 : fI (setI (setL x12 101 (nI j) (lN (256 * B + (c + g)))) 96 14 (nI (B + (c + g)))) 96 15 = nI (oF acc acc.length) := (gI_ne (by decide)).trans ((i12 _ _).trans w15)
          rw [e15, nI_add]
          obtain ⟨v, hv'⟩ : ∃ v, v = setI (setI (setL x12 101 (nI j) (lN (256 * B + (c + g)))) 96 14 (nI (B + (c + g)))) 96 15 (nI (oF acc acc.length + (c + g))) := ⟨_, rfl⟩
          rw [← hv']
          have v15 : fI v 96 15 = nI (oF acc acc.length + (c + g)) := by rw [hv']; exact gI_at
          have v14 : fI v 96 14 = nI (B + (c + g)) := by rw [hv', gI_ne (by decide)]; exact gI_at
          have v13 : fI v 96 13 = fI x 96 13 := by rw [hv', gI_ne (by decide), gI_ne (by decide)]; exact (i12 _ _).trans ((w1.ii (by decide)).trans u13)
          have v82 : fA v 82 = fA x12 82 := by rw [hv']; rfl
          have v94 : fA v 94 = fA x 94 := by rw [hv']; exact (a12 94 (by decide)).trans ((w1.aa id).trans u94)
          have v95 : fL v 95 = fL x 95 := by rw [hv']; exact (gL_ne (by decide)).trans ((l12 95).trans ((w1.ll id).trans u95))
          have v100 : fL v 100 = fL u 100 := by rw [hv']; exact (gL_ne (by decide)).trans ((l12 100).trans (w1.ll id))
          have v101 : fL v 101 = vp_updL (fL u 101) j (lN (256 * B + (c + g))) := by
            rw [hv']
            show fL (setL x12 101 (nI j) (lN (256 * B + (c + g)))) 101 = _
            rw [gL_at, nI_clamp (by omega), l12, w1.ll id]
          have fv : FrVC b x v := ((u1.trans (FrVC.sr w1)).trans F12).trans (by rw [hv']; exact ((FrVC.l (by decide)).trans (FrVC.i (by decide))).trans (FrVC.i (by decide)))
          have Sv : Sr 104 v T n (pp + g) st := by rw [hv']; exact (S12.l.i (by decide)).i (by decide)
          clear hv'
          have lnew : (pv.2.take c ++ txs T pp g).length = c + g := by rw [List.length_append, List.length_take, txs_len]; omega
          have of2 : oF (acc ++ [((0 : Int64), pv.2.take c ++ txs T pp g)]) (acc ++ [((0 : Int64), pv.2.take c ++ txs T pp g)]).length = oF acc acc.length + (c + g) := by
            rw [List.length_append]
            show oF (acc ++ [_]) (acc.length + 1) = _
            rw [oF_a2, show (((0 : Int64), pv.2.take c ++ txs T pp g) : PV).2.length = c + g from lnew]
          have rfn : RfP v (B + (c + g)) 3 (lN (256 * B + (c + g))) (0, pv.2.take c ++ txs T pp g) := by
            refine ⟨fun w => absurd rfl w, fun _ => ⟨okT_app (okT_take k1 c) (txs_ok S.t (by omega)) (by rw [List.length_take, txs_len]; omega), B, by rw [show (((0 : Int64), pv.2.take c ++ txs T pp g) : PV).2.length = c + g from lnew], by rw [show (((0 : Int64), pv.2.take c ++ txs T pp g) : PV).2.length = c + g from lnew]; omega, fun i hi => ?_⟩⟩
            rw [show (((0 : Int64), pv.2.take c ++ txs T pp g) : PV).2.length = c + g from lnew] at hi
            show _ = ((pv.2.take c ++ txs T pp g).getD i 0).toInt8.toInt32
            have ltk : (pv.2.take c).length = c := by rw [List.length_take]; omega
            rw [v82]
            by_cases ci : i < c
            · rw [p12 i ci, getD_l (by omega), getD_tk ci]
            · obtain ⟨i', rfl⟩ : ∃ i', i = c + i' := ⟨i - c, by omega⟩
              rw [← Nat.add_assoc, t12 i' (by omega)]
              have := getD_r (A := pv.2.take c) (B := txs T pp g) (j := i') (d := (0 : Int32))
              rw [ltk] at this
              rw [this, txs_at (by omega)]
          unfold j_Opn_readTextsInParts_260
          rw [v15]
          by_cases cb : 20000 < oF acc acc.length + c + g
          · rw [if_pos cb] at er
            refine br_t (by (first | omega | (simp (disch := omega) only [Int32.le_iff_toInt_le, Int32.lt_iff_toInt_lt, z_eq, z_in, nI_toInt, z_cl, z_m1, z_sg, z_255, Int32.reduceToInt] <;> omega) | (simp only [Int32.le_iff_toInt_le, Int32.lt_iff_toInt_lt, z_eq, z_in, z_add, z_sub, z_mul, z_neg, z_nI, z_cl, z_sg, z_255, z_lit, Int32.reduceToInt] <;> omega))) (r_ck0 7 Sv (by decide) (by decide) (fun v' r1 r2 => nx v' _ (fv.trans (FrVC.sr r1)) ((r1.ii (by decide)).trans v13) ((r1.aa id).trans v94) ((r1.ll id).trans v95) (Or.inl ⟨7, r2, by rw [q5, er]⟩)))
          · rw [if_neg cb] at er
            refine br_f (by (first | omega | (simp (disch := omega) only [Int32.le_iff_toInt_le, Int32.lt_iff_toInt_lt, z_eq, z_in, nI_toInt, z_cl, z_m1, z_sg, z_255, Int32.reduceToInt] <;> omega) | (simp only [Int32.le_iff_toInt_le, Int32.lt_iff_toInt_lt, z_eq, z_in, z_add, z_sub, z_mul, z_neg, z_nI, z_cl, z_sg, z_255, z_lit, Int32.reduceToInt] <;> omega))) (k_ck1 (nx v _ fv v13 v94 v95 (Or.inr ⟨acc ++ [(0, pv.2.take c ++ txs T pp g)], pp + g, by rw [List.length_append, q0]; rfl, by rw [of2]; omega, by rw [of2]; exact v15, by rw [of2, v14]; congr 1; omega, Sv, fun i hi => ?_, ?_, fun i i1 i2 => ?_, fun i hi => by rw [v100]; exact q6 i hi, by rw [q5, er]⟩)))
            · rw [List.length_append] at hi
              have hi : i < acc.length + 1 := hi
              rw [of2, show b + (oF acc acc.length + (c + g)) = B + (c + g) by omega, Nat.zero_add, v101]
              by_cases e : i = acc.length
              · rw [e, q0, updL_at]
                unfold pvd
                rw [← q0, getD_n]
                exact rfn
              · rw [updL_ne (by omega)]
                have := q3 i (by omega)
                rw [Nat.zero_add] at this
                unfold pvd at this ⊢
                rw [getD_l (by omega)]
                exact this.up (fun i hi => by rw [v82]; exact o12 i hi) (by omega)
            · rw [of2, show b + (oF acc acc.length + (c + g)) = B + (c + g) by omega]
              unfold pvd
              rw [List.length_append, show acc.length + [((0 : Int64), pv.2.take c ++ txs T pp g)].length - 1 = acc.length from Nat.add_sub_cancel _ _, getD_n]
              exact rfn
            · rw [v101, updL_ne (by omega)]
              exact q4 i (by omega) i2
      refine k_size (ref_sz lb (by omega)) ?_
      rw [show (nI pv.2.length).toInt64 = lN pv.2.length from nI_l (by omega)]
      refine k_within c64 (by omega) (fun w1 => br_f (by decide) ?_) (fun w1 => br_t rfl (bad (Or.inl w1)))
      rw [show (255 : Int64) - lN c = lN (255 - c) from by rw [show (255 : Int64) = lN 255 from rfl, lN_sub (by omega)]]
      refine k_within g64 (by omega) (fun w2 => br_f (by decide) (good (by omega))) (fun w2 => br_t rfl (bad (Or.inr (by omega))))
    · have ej : j = m := by omega
      subst ej
      refine br_t (by (first | omega | (simp (disch := omega) only [Int32.le_iff_toInt_le, Int32.lt_iff_toInt_lt, z_eq, z_in, nI_toInt, z_cl, z_m1, z_sg, z_255, Int32.reduceToInt] <;> omega) | (simp only [Int32.le_iff_toInt_le, Int32.lt_iff_toInt_lt, z_eq, z_in, z_add, z_sub, z_mul, z_neg, z_nI, z_cl, z_sg, z_255, z_lit, Int32.reduceToInt] <;> omega))) (pk acc pp u ?_ u1 Su q0 q1' q3 q2 q14 u13 u94 u95)
      rw [q5, Nat.sub_self]
      rfl
end
