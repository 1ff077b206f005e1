/-! the Opener reads texts -/
def FrVC (b : Nat) (x y : St) : Prop := Fg (fun a k => a = 104 ∧ (k = 1 ∨ k = 2 ∨ k = 3) ∨ a = 96 ∧ (k = 13 ∨ k = 14 ∨ k = 15)) no2 no2 (fun a => a = 105 ∨ a = 82 ∨ a = 94) (fun a => a = 95 ∨ a = 100 ∨ a = 101) x y ∧ ∀ i, i < b → fA y 82 i = fA x 82 i
section
variable {x y z : St} {T : Nat → Nat} {n st p b : Nat}
theorem FrVC.refl (x : St) : FrVC b x x := ⟨Fg.refl x, fun _ _ => rfl⟩
theorem FrVC.trans (h : FrVC b x y) (k : FrVC b y z) : FrVC b x z := ⟨Fg.trans h.1 k.1, fun i hi => (k.2 i hi).trans (h.2 i hi)⟩
theorem FrVC.of {I J R : Nat → Nat → Prop} {A L : Nat → Prop} (f : Fg I J R A L x y) (h1 : ∀ o k, I o k → o = 104 ∧ (k = 1 ∨ k = 2 ∨ k = 3) ∨ o = 96 ∧ (k = 13 ∨ k = 14 ∨ k = 15)) (h2 : ∀ o k, ¬ J o k) (h3 : ∀ o k, ¬ R o k) (h4 : ∀ a, A a → a = 105 ∨ a = 94) (h5 : ∀ a, L a → a = 95 ∨ a = 100 ∨ a = 101) : FrVC b x y := ⟨f.mono h1 (fun _ _ z => h2 _ _ z) (fun _ _ z => h3 _ _ z) (fun a z => by have := h4 a z; omega) h5, fun i _ => by rw [f.aa (fun z => by have := h4 82 z; omega)]⟩
theorem FrVC.cd {r : Nat} (hr : r = 100 ∨ r = 101) (f : FrCd 104 r x y) : FrVC b x y := FrVC.of f (fun o k z => Or.inl z) (fun _ _ z => z) (fun _ _ z => z) (fun a z => Or.inl z) (fun a z => by have : a = r := z; omega)
theorem FrVC.sl {r : Nat} (hr : r = 95 ∨ r = 100 ∨ r = 101) (f : FrSL 104 r x y) : FrVC b x y := FrVC.of f (fun o k z => Or.inl ⟨z.1, by omega⟩) (fun _ _ z => z) (fun _ _ z => z) (fun a z => z.elim) (fun a z => by have : a = r := z; omega)
theorem FrVC.sr (f : FrSr 104 x y) : FrVC b x y := FrVC.of f (fun o k z => Or.inl ⟨z.1, by omega⟩) (fun _ _ z => z) (fun _ _ z => z) (fun a z => z.elim) (fun a z => z.elim)
theorem FrVC.i {k : Nat} {v : Int32} (h : k = 13 ∨ k = 14 ∨ k = 15) : FrVC b x (setI x 96 k v) := ⟨Fg.i (Or.inr ⟨rfl, h⟩), fun _ _ => rfl⟩
theorem FrVC.l {r : Nat} {i : Int32} {v : Int64} (h : r = 95 ∨ r = 100 ∨ r = 101) : FrVC b x (setL x r i v) := ⟨Fg.l h, fun _ _ => rfl⟩
theorem FrVC.fi (f : FrVC b x y) (h : FiC x T n) (hb : n ≤ b) : FiC y T n := ⟨fun r hr => (f.1.len r).trans (h.1 r hr), h.2.1, h.2.2.1, fun i hi => (f.2 i (by omega)).trans (h.2.2.2 i hi)⟩
theorem Sr.i {o a k : Nat} {v : Int32} (S : Sr o x T n p st) (h : a ≠ o) : Sr o (setI x a k v) T n p st := S.cg (Fg.i (I := fun c _ => c = a) (J := no2) (R := no2) (A := no1) (L := no1) rfl) id (fun z => h z.symm) (fun z => h z.symm) (fun z => h z.symm)
theorem Sr.l {o r : Nat} {i : Int32} {v : Int64} (S : Sr o x T n p st) : Sr o (setL x r i v) T n p st := S.cg (Fg.l (L := fun a => a = r) (I := no2) (J := no2) (R := no2) (A := no1) rfl) id id id id
theorem Sr.a {o r : Nat} {i v : Int32} (S : Sr o x T n p st) (h : r ≠ 82) : Sr o (setA x r i v) T n p st := S.cg (Fg.a (A := fun a => a = r) (I := no2) (J := no2) (R := no2) (L := no1) rfl) (fun z => h z.symm) id id id
theorem gI_no {o a k j : Nat} {v : Int32} (h : a ≠ o) : fI (setI x o k v) a j = fI x a j := (Fg.i (I := fun c _ => c = o) (J := no2) (R := no2) (A := no1) (L := no1) rfl).1 a j h
theorem k_wany {post : Int32 → St → Prop} {v w : Int64} (q : ∀ b, post b x) : wp_V_within post v w x := by
  unfold wp_V_within j_V_within_16
  exact ⟨fun _ => q _, fun _ => ⟨fun _ => q _, fun _ => q _⟩⟩
theorem k_tx1 {post : St → Prop} {m : Nat} (S : Sr 104 x T n p st) (hm : m ≤ 1000) (hv : fI x 96 9 = nI m) (h15 : fI x 96 15 = 0) (hb : n ≤ b)
    (pe : ∀ e y, tx1 T m st p = .error e → FrVC b x y → FlC 104 y e → post y)
    (pk : ∀ P q y, tx1 T m st p = .ok (P, q) → FrVC b x y → Sr 104 y T n q st → P.length = m → oF P P.length ≤ 20000 → VsC y 101 0 b 3 P → fI y 96 15 = nI (oF P P.length) → fI y 96 14 = fI x 96 14 → fI y 96 13 = fI x 96 13 → fA y 94 = fA x 94 → fL y 95 = fL x 95 → post y) : wp_Opn_readTexts post 96 x := by
  have hS := S.le
  have L101 : fN x 101 = 2000 := S.1.1 101 (by decide)
  unfold wp_Opn_readTexts
  rw [show stC 96 8 = 101 from rfl, show stC 96 2 = 104 from rfl, hv]
  -- in a fault
  have f18 : ∀ (y : St) (e : Nat), FrVC b x y → FlC 104 y e → tx1 T m st p = .error e → ∀ k, k ≤ m → ∃ nn, wl_Opn_readTexts_18 post nn 96 (nI k) y := fun y e y1 y2 y3 k hk => by
    refine lp_Opn_readTexts_18 (fun a0 a1 z => 96 = a0 ∧ y = z ∧ ∃ k, nI k = a1 ∧ k ≤ m) (fun _ a1 _ => m - a1.toNatClampNeg) ?_ _ _ _ ⟨rfl, rfl, k, rfl, hk⟩
    rintro Q a0 a1 z ⟨rfl, rfl, k, rfl, k1⟩ ih
    unfold j_Opn_readTexts_18
    rw [show stC 96 8 = 101 from rfl, show stC 96 2 = 104 from rfl, (y1.1.ii (by decide)).trans hv]
    by_cases ck : k < m
    · refine br_f (by (first | omega | (simp (disch := omega) only [Int32.le_iff_toInt_le, Int32.lt_iff_toInt_lt, z_eq, z_in, nI_toInt, z_cl, z_m1, z_sg, z_255, Int32.reduceToInt] <;> omega) | (simp only [Int32.le_iff_toInt_le, Int32.lt_iff_toInt_lt, z_eq, z_in, z_add, z_sub, z_mul, z_neg, z_nI, z_cl, z_sg, z_255, z_lit, Int32.reduceToInt] <;> omega))) ⟨by rw [y1.1.len, L101]; exact vp_in_nI (by omega) (by decide), k_wany (fun _ => k_ckf y2.ne ?_)⟩
      rw [nI_1]
      exact ih _ _ _ ⟨rfl, rfl, k + 1, rfl, ck⟩ (by rw [nI_clamp (by omega), nI_clamp (by omega)]; omega)
    · refine br_t (by (first | omega | (simp (disch := omega) only [Int32.le_iff_toInt_le, Int32.lt_iff_toInt_lt, z_eq, z_in, nI_toInt, z_cl, z_m1, z_sg, z_255, Int32.reduceToInt] <;> omega) | (simp only [Int32.le_iff_toInt_le, Int32.lt_iff_toInt_lt, z_eq, z_in, z_add, z_sub, z_mul, z_neg, z_nI, z_cl, z_sg, z_255, z_lit, Int32.reduceToInt] <;> omega))) ⟨1, ?_⟩
      unfold wl_Opn_readTexts_55 j_Opn_readTexts_55
      exact ⟨fun _ => pe e y y3 y1 y2, fun _ => ⟨fun _ => pe e y y3 y1 y2, fun z => absurd z y2.ne⟩⟩
  refine k_cde so4 S (by omega) L101 (fun e y y1 y2 y3 => ?_) (fun L q y y1 y2 Sy y3 => ?_)
  · exact f18 y e (FrVC.cd (Or.inr rfl) y2) y3 (by unfold tx1; rw [y1]) 0 (Nat.zero_le _)
  · have et : tx1 T m st p = (if ∃ k, k < m ∧ 255 < uL (L.getD k 0) then .error 7 else ltxF T st L m [] q) := by unfold tx1; rw [y1]
    have fy : FrVC b x y := FrVC.cd (Or.inr rfl) y2
    refine lp_Opn_readTexts_18 (fun a0 a1 z => 96 = a0 ∧ FrSr 104 y z ∧ ∃ k, nI k = a1 ∧ k ≤ m ∧ ((∃ e, FlC 104 z e ∧ tx1 T m st p = .error e) ∨ Sr 104 z T n q st ∧ ∀ j, j < k → uL (L.getD j 0) ≤ 255)) (fun _ a1 _ => m - a1.toNatClampNeg) ?_ _ _ _ ⟨rfl, Fg.refl y, 0, rfl, Nat.zero_le _, Or.inr ⟨Sy, fun j hj => absurd hj (Nat.not_lt_zero _)⟩⟩
    rintro Q a0 a1 z ⟨rfl, z1, k, rfl, k1, z2⟩ ih
    have fz : FrVC b x z := fy.trans (FrVC.sr z1)
    unfold j_Opn_readTexts_18
    rw [show stC 96 8 = 101 from rfl, show stC 96 2 = 104 from rfl, (fz.1.ii (by decide)).trans hv]
    rcases z2 with ⟨e, f1, f2⟩ | ⟨Sz, z3⟩
    · by_cases ck : k < m
      · refine br_f (by (first | omega | (simp (disch := omega) only [Int32.le_iff_toInt_le, Int32.lt_iff_toInt_lt, z_eq, z_in, nI_toInt, z_cl, z_m1, z_sg, z_255, Int32.reduceToInt] <;> omega) | (simp only [Int32.le_iff_toInt_le, Int32.lt_iff_toInt_lt, z_eq, z_in, z_add, z_sub, z_mul, z_neg, z_nI, z_cl, z_sg, z_255, z_lit, Int32.reduceToInt] <;> omega))) ⟨by rw [fz.1.len, L101]; exact vp_in_nI (by omega) (by decide), k_wany (fun _ => k_ckf f1.ne ?_)⟩
        rw [nI_1]
        exact ih _ _ _ ⟨rfl, z1, k + 1, rfl, ck, Or.inl ⟨e, f1, f2⟩⟩ (by rw [nI_clamp (by omega), nI_clamp (by omega)]; omega)
      · refine br_t (by (first | omega | (simp (disch := omega) only [Int32.le_iff_toInt_le, Int32.lt_iff_toInt_lt, z_eq, z_in, nI_toInt, z_cl, z_m1, z_sg, z_255, Int32.reduceToInt] <;> omega) | (simp only [Int32.le_iff_toInt_le, Int32.lt_iff_toInt_lt, z_eq, z_in, z_add, z_sub, z_mul, z_neg, z_nI, z_cl, z_sg, z_255, z_lit, Int32.reduceToInt] <;> omega))) ⟨1, ?_⟩
        unfold wl_Opn_readTexts_55 j_Opn_readTexts_55
        exact ⟨fun _ => pe e z f2 fz f1, fun _ => ⟨fun _ => pe e z f2 fz f1, fun w => absurd w f1.ne⟩⟩
    · by_cases ck : k < m
      · refine br_f (by (first | omega | (simp (disch := omega) only [Int32.le_iff_toInt_le, Int32.lt_iff_toInt_lt, z_eq, z_in, nI_toInt, z_cl, z_m1, z_sg, z_255, Int32.reduceToInt] <;> omega) | (simp only [Int32.le_iff_toInt_le, Int32.lt_iff_toInt_lt, z_eq, z_in, z_add, z_sub, z_mul, z_neg, z_nI, z_cl, z_sg, z_255, z_lit, Int32.reduceToInt] <;> omega))) ⟨by rw [fz.1.len, L101]; exact vp_in_nI (by omega) (by decide), ?_⟩
        rw [rL_nI (by omega), z1.ll id, y3 k ck, show L.getD k 0 = lN (uL (L.getD k 0)) from (lN_uL _).symm, show (255 : Int64) = lN 255 from rfl, nI_1]
        refine k_within (uL_lt _) (by decide) (fun c => k_ck1 ?_) (fun c => r_ck0 7 Sz (by decide) (by decide) (fun u u1 u2 => ?_))
        · refine ih _ _ _ ⟨rfl, z1, k + 1, rfl, ck, Or.inr ⟨Sz, fun j hj => ?_⟩⟩ (by rw [nI_clamp (by omega), nI_clamp (by omega)]; omega)
          by_cases ej : j = k
          · rw [ej]; exact c
          · exact z3 j (by omega)
        · exact ih _ _ _ ⟨rfl, Fg.trans z1 u1, k + 1, rfl, ck, Or.inl ⟨7, u2, by rw [et, if_pos ⟨k, ck, c⟩]⟩⟩ (by rw [nI_clamp (by omega), nI_clamp (by omega)]; omega)
      · have ek : k = m := by omega
        subst ek
        rw [if_neg (fun w => by obtain ⟨j, j1, j2⟩ := w; have := z3 j j1; omega)] at et
        refine br_t (by (first | omega | (simp (disch := omega) only [Int32.le_iff_toInt_le, Int32.lt_iff_toInt_lt, z_eq, z_in, nI_toInt, z_cl, z_m1, z_sg, z_255, Int32.reduceToInt] <;> omega) | (simp only [Int32.le_iff_toInt_le, Int32.lt_iff_toInt_lt, z_eq, z_in, z_add, z_sub, z_mul, z_neg, z_nI, z_cl, z_sg, z_255, z_lit, Int32.reduceToInt] <;> omega))) ?_
        have v0 : ∀ j, j < k → fL z 101 j = L.getD j 0 := fun j hj => by rw [z1.ll id]; exact y3 j hj
        refine lp_Opn_readTexts_55 (fun a0 a1 u => 96 = a0 ∧ FrVC b x u ∧ fI u 96 14 = fI x 96 14 ∧ fI u 96 13 = fI x 96 13 ∧ fA u 94 = fA x 94 ∧ fL u 95 = fL x 95 ∧ ∃ j, nI j = a1 ∧ j ≤ k ∧ ((∃ e, FlC 104 u e ∧ tx1 T k st p = .error e) ∨ ∃ acc pp, acc.length = j ∧ oF acc acc.length ≤ 20000 ∧ fI u 96 15 = nI (oF acc acc.length) ∧ Sr 104 u T n pp st ∧ VsC u 101 0 b 3 acc ∧ (∀ i, j ≤ i → i < k → fL u 101 i = L.getD i 0) ∧ tx1 T k st p = ltxF T st L (k - j) acc pp)) (fun _ a1 _ => k - a1.toNatClampNeg) ?_ _ _ _ ⟨rfl, fz, (z1.ii (by decide)).trans (y2.ii (by decide)), (z1.ii (by decide)).trans (y2.ii (by decide)), (z1.aa id).trans (y2.aa (by decide)), (z1.ll id).trans (y2.ll (by decide)), 0, rfl, Nat.zero_le _, Or.inr ⟨[], q, rfl, Nat.zero_le _, (z1.ii (by decide)).trans ((y2.ii (by decide)).trans h15), Sz, fun i hi => absurd hi (Nat.not_lt_zero _), fun i _ hi => v0 i hi, et⟩⟩
        rintro Q2 a0 a1 u ⟨rfl, u1, u14, u13, u94, u95, j, rfl, j1, u2⟩ ih2
        have lu : fN u 101 = 2000 := (u1.1.len 101).trans L101
        unfold j_Opn_readTexts_55
        rw [show stC 96 8 = 101 from rfl, show stC 96 2 = 104 from rfl, (u1.1.ii (by decide)).trans hv]
        rcases u2 with ⟨e, f1, f2⟩ | ⟨acc, pp, q0, q1, q2, Su, q3, q4, q5⟩
        · exact ⟨fun _ => pe e u f2 u1 f1, fun _ => ⟨fun _ => pe e u f2 u1 f1, fun w => absurd w f1.ne⟩⟩
        · by_cases cj : j < k
          · refine br_f (by (first | omega | (simp (disch := omega) only [Int32.le_iff_toInt_le, Int32.lt_iff_toInt_lt, z_eq, z_in, nI_toInt, z_cl, z_m1, z_sg, z_255, Int32.reduceToInt] <;> omega) | (simp only [Int32.le_iff_toInt_le, Int32.lt_iff_toInt_lt, z_eq, z_in, z_add, z_sub, z_mul, z_neg, z_nI, z_cl, z_sg, z_255, z_lit, Int32.reduceToInt] <;> omega))) (bn_t Su.h0 ⟨by rw [lu]; exact vp_in_nI (by omega) (by decide), ?_⟩)
            obtain ⟨d, hd⟩ : ∃ d, k - j = d + 1 := ⟨k - j - 1, by omega⟩
            rw [hd] at q5
            obtain ⟨g, hg⟩ : ∃ g, g = uL (L.getD j 0) := ⟨_, rfl⟩
            have hg255 : g ≤ 255 := by rw [hg]; exact z3 j cj
            have er : ltxF T st L (d + 1) acc pp = (if st < pp + g then .error 1 else if 20000 < oF acc acc.length + g then .error 7 else ltxF T st L d (acc ++ [(0, txs T pp g)]) (pp + g)) := by rw [hg, ← q0]; rfl
            rw [rL_nI (by omega), q4 j (Nat.le_refl _) cj, show L.getD j 0 = lN g from by rw [hg, lN_uL]]
            have hSu := Su.le
            have nx : ∀ w, FrVC b x w → fI w 96 14 = fI x 96 14 → fI w 96 13 = fI x 96 13 → fA w 94 = fA x 94 → fL w 95 = fL x 95 → ((∃ e, FlC 104 w e ∧ tx1 T k st p = .error e) ∨ ∃ acc pp, acc.length = j + 1 ∧ oF acc acc.length ≤ 20000 ∧ fI w 96 15 = nI (oF acc acc.length) ∧ Sr 104 w T n pp st ∧ VsC w 101 0 b 3 acc ∧ (∀ i, j + 1 ≤ i → i < k → fL w 101 i = L.getD i 0) ∧ tx1 T k st p = ltxF T st L d acc pp) → Q2 96 (nI j + 1) w := fun w w1 w2 w3 w4 w5 w6 => by
              rw [nI_1]
              exact ih2 _ _ _ ⟨rfl, w1, w2, w3, w4, w5, j + 1, rfl, cj, by rw [show k - (j + 1) = d by omega]; exact w6⟩ (by rw [nI_clamp (by omega), nI_clamp (by omega)]; omega)
            refine k_let Su (by omega) hb (fun e w w1 w2 w3 => ⟨by rw [w2.len, lu]; exact vp_in_nI (by omega) (by decide), nm_e ⟨by show vp_in _ (fN w 101); rw [w2.len, lu]; exact vp_in_nI (by omega) (by decide), ?_⟩⟩) (fun c1 c2 w w1 Sw w2 => ⟨by rw [w1.len, lu]; exact vp_in_nI (by omega) (by decide), nm_e ⟨by show vp_in _ (fN w 101); rw [w1.len, lu]; exact vp_in_nI (by omega) (by decide), ?_⟩⟩)
            · have fl : ∀ v, FlC 104 (setI (setL w 101 (nI j) 0) 96 15 v) e := fun v => ⟨(gI_no (by decide)).trans w3.1, w3.2⟩
              have er2 : tx1 T k st p = .error e := by
                rw [q5, er]
                rcases w1 with ⟨a, a2⟩ | ⟨a, a2, a3⟩
                · omega
                · rw [if_pos a2, a3]
              have g2 : ∀ v, Q2 96 (nI j + 1) (setI (setL w 101 (nI j) 0) 96 15 v) := fun v => nx _ (((u1.trans (FrVC.sr w2)).trans (FrVC.l (by decide))).trans (FrVC.i (by decide))) ((gI_ne (by decide)).trans ((w2.ii (by decide)).trans u14)) ((gI_ne (by decide)).trans ((w2.ii (by decide)).trans u13)) ((w2.aa id).trans u94) ((gL_ne (by decide)).trans ((w2.ll id).trans u95)) (Or.inl ⟨e, fl v, er2⟩)
              unfold wp_V_sizeOf j_Opn_readTexts_129
              exact nm_e ⟨fun _ => k_ckf (fl _).ne (g2 _), fun _ => k_ckf (fl _).ne (g2 _)⟩
            · have el : rL (setL w 101 (nI j) (lN (256 * pp + g))) 101 (nI j) = lN (256 * pp + g) := by rw [rL_nI (by omega), gL_at, nI_clamp (by omega), updL_at]
              have e15 : fI (setL w 101 (nI j) (lN (256 * pp + g))) 96 15 = nI (oF acc acc.length) := (w1.ii (by decide)).trans q2
              have of2 : oF (acc ++ [((0 : Int64), txs T pp g)]) (acc ++ [((0 : Int64), txs T pp g)]).length = oF acc acc.length + g := by
                rw [List.length_append]
                show oF (acc ++ [_]) (acc.length + 1) = _
                rw [oF_a2, show (((0 : Int64), txs T pp g) : PV).2.length = g from txs_len]
              unfold j_Opn_readTexts_129
              rw [el]
              refine k_size (ref_sz c1 (by omega)) ?_
              rw [e15, nI_add]
              rw [if_neg (by omega)] at er
              refine nm_e ?_
              rw [show fI (setI (setL w 101 (nI j) (lN (256 * pp + g))) 96 15 (nI (oF acc acc.length + g))) 96 15 = nI (oF acc acc.length + g) from gI_at]
              have fw : FrVC b x (setI (setL w 101 (nI j) (lN (256 * pp + g))) 96 15 (nI (oF acc acc.length + g))) := ((u1.trans (FrVC.sr w1)).trans (FrVC.l (by decide))).trans (FrVC.i (by decide))
              have Sw' : Sr 104 (setI (setL w 101 (nI j) (lN (256 * pp + g))) 96 15 (nI (oF acc acc.length + g))) T n (pp + g) st := Sw.l.i (by decide)
              have w14 : fI (setI (setL w 101 (nI j) (lN (256 * pp + g))) 96 15 (nI (oF acc acc.length + g))) 96 14 = fI x 96 14 := (gI_ne (by decide)).trans ((w1.ii (by decide)).trans u14)
              have w13 : fI (setI (setL w 101 (nI j) (lN (256 * pp + g))) 96 15 (nI (oF acc acc.length + g))) 96 13 = fI x 96 13 := (gI_ne (by decide)).trans ((w1.ii (by decide)).trans u13)
              have w94 : fA (setI (setL w 101 (nI j) (lN (256 * pp + g))) 96 15 (nI (oF acc acc.length + g))) 94 = fA x 94 := (w1.aa id).trans u94
              have w95 : fL (setI (setL w 101 (nI j) (lN (256 * pp + g))) 96 15 (nI (oF acc acc.length + g))) 95 = fL x 95 := (gL_ne (by decide)).trans ((w1.ll id).trans u95)
              by_cases cb : 20000 < oF acc acc.length + g
              · rw [if_pos cb] at er
                refine br_t (by (first | omega | (simp (disch := omega) only [Int32.le_iff_toInt_le, Int32.lt_iff_toInt_lt, z_eq, z_in, nI_toInt, z_cl, z_m1, z_sg, z_255, Int32.reduceToInt] <;> omega) | (simp only [Int32.le_iff_toInt_le, Int32.lt_iff_toInt_lt, z_eq, z_in, z_add, z_sub, z_mul, z_neg, z_nI, z_cl, z_sg, z_255, z_lit, Int32.reduceToInt] <;> omega))) (r_ck0 7 Sw' (by decide) (by decide) (fun v v1 v2 => nx v (fw.trans (FrVC.sr v1)) ((v1.ii (by decide)).trans w14) ((v1.ii (by decide)).trans w13) ((v1.aa id).trans w94) ((v1.ll id).trans w95) (Or.inl ⟨7, v2, by rw [q5, er]⟩)))
              · rw [if_neg cb] at er
                refine br_f (by (first | omega | (simp (disch := omega) only [Int32.le_iff_toInt_le, Int32.lt_iff_toInt_lt, z_eq, z_in, nI_toInt, z_cl, z_m1, z_sg, z_255, Int32.reduceToInt] <;> omega) | (simp only [Int32.le_iff_toInt_le, Int32.lt_iff_toInt_lt, z_eq, z_in, z_add, z_sub, z_mul, z_neg, z_nI, z_cl, z_sg, z_255, z_lit, Int32.reduceToInt] <;> omega))) (k_ck1 (nx _ fw w14 w13 w94 w95 (Or.inr ⟨acc ++ [(0, txs T pp g)], pp + g, by rw [List.length_append, q0]; rfl, by rw [of2]; omega, by rw [of2]; exact gI_at, Sw', fun i hi => ?_, fun i i1 i2 => ?_, by rw [q5, er]⟩)))
                · rw [List.length_append] at hi
                  have hi : i < acc.length + 1 := hi
                  rw [Nat.zero_add]
                  show RfP _ b 3 (fL (setL w 101 (nI j) (lN (256 * pp + g))) 101 i) _
                  rw [gL_at, nI_clamp (by omega)]
                  by_cases e : i = acc.length
                  · rw [e, q0, updL_at]
                    unfold pvd
                    rw [← q0, getD_n]
                    exact w2.same rfl
                  · rw [updL_ne (by omega), w1.ll id]
                    have := q3 i (by omega)
                    rw [Nat.zero_add] at this
                    unfold pvd at this ⊢
                    rw [getD_l (by omega)]
                    exact this.same (by show fA w 82 = _; rw [w1.aa id])
                · show fL (setL w 101 (nI j) (lN (256 * pp + g))) 101 i = _
                  rw [gL_at, nI_clamp (by omega), updL_ne (by omega), w1.ll id]
                  exact q4 i (by omega) i2
          · have ej : j = k := by omega
            subst ej
            refine br_t (by (first | omega | (simp (disch := omega) only [Int32.le_iff_toInt_le, Int32.lt_iff_toInt_lt, z_eq, z_in, nI_toInt, z_cl, z_m1, z_sg, z_255, Int32.reduceToInt] <;> omega) | (simp only [Int32.le_iff_toInt_le, Int32.lt_iff_toInt_lt, z_eq, z_in, z_add, z_sub, z_mul, z_neg, z_nI, z_cl, z_sg, z_255, z_lit, Int32.reduceToInt] <;> omega))) (pk acc pp u ?_ u1 Su q0 q1 q3 q2 u14 u13 u94 u95)
            rw [q5, Nat.sub_self]
            rfl
end
