/-! the Opener reads the values of a page -/
def trW (W : List PV) : List PV := if W.length ≤ 100 then W else []
/-- the words of a page are kept -/
theorem dtx_em : ∀ {N : List Nat} {P : List PV}, dtx [] N [] = .ok P → P = [] := by
  intro N P h
  cases N with
  | nil => injection h with h; exact h.symm
  | cons v N =>
    have h : (if ([] : List PV).length ≤ v then (Except.error 7 : Except Nat (List PV)) else _) = .ok P := h
    rw [if_pos (show ([] : List PV).length ≤ v from Nat.zero_le _)] at h
    exact nomatch h
theorem dcR_em {T : Nat → Nat} {ty n st p q : Nat} {P : List PV} (h : dcR T ty n st p = .ok ((P, []), q)) : P = [] := by
  unfold dcR at h
  split at h
  · exact nomatch h
  · split at h
    · exact nomatch h
    · split at h
      · exact nomatch h
      · split at h
        · exact nomatch h
        · split at h
          · exact nomatch h
          · split at h
            · exact nomatch h
            · split at h
              · exact nomatch h
              · split at h
                · exact nomatch h
                · rename_i e
                  injection h with h
                  injection h with h1 h2
                  injection h1 with h3 h4
                  subst h4 h3
                  exact dtx_em e
def DcO (x y : St) (pg dE b ty : Nat) (W : List PV) (Z : Prop) : Prop := (∀ i, i < dE → fL y 95 i = fL x 95 i) ∧ ((W = [] ∧ fI y 96 13 = nI dE ∧ fA y 94 = fA x 94) ∨ (fA y 94 = upd (fA x 94) pg (nI (dE * 128 + W.length)) ∧ fI y 96 13 = nI (dE + W.length) ∧ VsC y 95 dE b ty W ∧ W.length ≤ 100 ∧ (W = [] → Z)))
section
variable {x y z : St} {T : Nat → Nat} {n st p b : Nat}
theorem VsC.up {r a b' ty : Nat} {P : List PV} (h : VsC x r a b ty P) (e1 : fL y r = fL x r) (e : ∀ i, i < b → fA y 82 i = fA x 82 i) (hb : b ≤ b') : VsC y r a b' ty P := fun k hk => by rw [e1]; exact (h k hk).up e hb
theorem VsC.mono {r a b' ty : Nat} {P : List PV} (h : VsC x r a b ty P) (hb : b ≤ b') : VsC x r a b' ty P := h.up rfl (fun _ _ => rfl) hb
theorem oF_nil {P : List PV} (h : ∀ v, v ∈ P → v.2 = []) : oF P P.length = 0 := oF_0 h _ (Nat.le_refl _)
theorem DcO.no {pg dE ty : Nat} (h1 : fL y 95 = fL x 95) (h2 : fI y 96 13 = nI dE) (h3 : fA y 94 = fA x 94) {Z : Prop} : DcO x y pg dE b ty [] Z := ⟨fun i _ => by rw [h1], Or.inl ⟨rfl, h2, h3⟩⟩
theorem k_wh {post : St → Prop} {m : Nat} {l2 l3 : Int32} {ty : Nat} {L : List Int64} (S : Sr 104 x T n p st) (hm : m ≤ 2000) (hv : fI x 96 9 = nI m) (hty : ty = 1 ∨ ty = 2) (hL : ∀ j, j < m → fL x 101 j = L.getD j 0)
    (pe : ∀ y, (ty = 1 ∧ ∃ k, k < m ∧ ¬ inI (L.getD k 0)) → FrSr 104 x y → FlC 104 y 7 → post y)
    (pk : (¬ (ty = 1 ∧ ∃ k, k < m ∧ ¬ inI (L.getD k 0))) → post x) : ∃ nn, wl_Opn_readValues_85 post nn 96 (nI ty) l2 l3 0 x := by
  have L101 : fN x 101 = 2000 := S.1.1 101 (by decide)
  by_cases c1 : ty = 1
  · subst c1
    refine lp_Opn_readValues_85 (fun a0 a1 a2 a3 a4 y => 96 = a0 ∧ nI 1 = a1 ∧ FrSr 104 x y ∧ ∃ j, nI j = a4 ∧ j ≤ m ∧ ((FlC 104 y 7 ∧ ∃ k, k < m ∧ ¬ inI (L.getD k 0)) ∨ x = y ∧ ∀ k, k < j → inI (L.getD k 0))) (fun _ _ _ _ a4 _ => m - a4.toNatClampNeg) ?_ _ _ _ _ _ _ ⟨rfl, rfl, Fg.refl x, 0, rfl, Nat.zero_le _, Or.inr ⟨rfl, fun k hk => absurd hk (Nat.not_lt_zero _)⟩⟩
    rintro Q a0 a1 a2 a3 a4 y ⟨rfl, rfl, y1, j, rfl, j1, y2⟩ ih
    unfold j_Opn_readValues_85 j_Opn_readValues_139 j_Opn_readValues_128
    rw [show stC 96 2 = 104 from rfl, show stC 96 8 = 101 from rfl, (y1.ii (by decide)).trans hv, y1.len, L101]
    by_cases cj : j < m
    · refine br_f (by (first | omega | (simp (disch := omega) only [Int32.le_iff_toInt_le, Int32.lt_iff_toInt_lt, z_eq, z_in, nI_toInt, z_cl, z_m1, z_sg, z_255, Int32.reduceToInt] <;> omega) | (simp only [Int32.le_iff_toInt_le, Int32.lt_iff_toInt_lt, z_eq, z_in, z_add, z_sub, z_mul, z_neg, z_nI, z_cl, z_sg, z_255, z_lit, Int32.reduceToInt] <;> omega))) (bn_t rfl ⟨vp_in_nI (by omega) (by decide), vp_in_nI (by omega) (by decide), ?_⟩)
      have nx : ∀ z, FrSr 104 x z → ((FlC 104 z 7 ∧ ∃ k, k < m ∧ ¬ inI (L.getD k 0)) ∨ x = z ∧ ∀ k, k < j + 1 → inI (L.getD k 0)) → Q 96 (nI 1) a2 a3 (nI j + 1) z := fun z z1 z2 => by
        rw [nI_1]
        exact ih _ _ _ _ _ _ ⟨rfl, rfl, z1, j + 1, rfl, cj, z2⟩ (by rw [nI_clamp (by omega), nI_clamp (by omega)]; omega)
      rcases y2 with ⟨f1, f2⟩ | ⟨rfl, y3⟩
      · exact ⟨fun _ => k_ckf f1.ne (nx y y1 (Or.inl ⟨f1, f2⟩)), fun _ => k_ckf f1.ne (nx y y1 (Or.inl ⟨f1, f2⟩))⟩
      · rw [rL_nI (by omega), hL j cj, lg_cmp_eq]
        by_cases ci : inI (L.getD j 0)
        · refine bn_t ci (k_ck1 (nx x y1 (Or.inr ⟨rfl, fun k hk => ?_⟩)))
          by_cases e : k = j
          · rw [e]; exact ci
          · exact y3 k (by omega)
        · exact bn_f ci (r_ck0 7 S (by decide) (by decide) (fun z z1 z2 => nx z z1 (Or.inl ⟨z2, j, cj, ci⟩)))
    · have e : j = m := by omega
      subst e
      refine br_t (by (first | omega | (simp (disch := omega) only [Int32.le_iff_toInt_le, Int32.lt_iff_toInt_lt, z_eq, z_in, nI_toInt, z_cl, z_m1, z_sg, z_255, Int32.reduceToInt] <;> omega) | (simp only [Int32.le_iff_toInt_le, Int32.lt_iff_toInt_lt, z_eq, z_in, z_add, z_sub, z_mul, z_neg, z_nI, z_cl, z_sg, z_255, z_lit, Int32.reduceToInt] <;> omega))) ?_
      rcases y2 with ⟨f1, f2⟩ | ⟨rfl, y3⟩
      · exact pe y ⟨rfl, f2⟩ y1 f1
      · exact pk (fun z => by obtain ⟨-, k, k1, k2⟩ := z; exact k2 (y3 k k1))
  · have := pk (fun z => c1 z.1)
    refine ⟨1, ?_⟩
    unfold wl_Opn_readValues_85 j_Opn_readValues_85 j_Opn_readValues_139
    exact ⟨fun _ => this, fun _ => bn_f (fun z => c1 (nI_inj (b := 1) (by omega) (by decide) z)) this⟩
theorem k_wh0 {post : St → Prop} {m : Nat} {l2 l3 : Int32} {ty : Nat} (h0 : ¬ fI x 104 3 = 0) (hL : LC x) (hm : m ≤ 2000) (hv : fI x 96 9 = nI m) (pk : post x) : ∃ nn, wl_Opn_readValues_85 post nn 96 (nI ty) l2 l3 0 x := by
  have L101 : fN x 101 = 2000 := hL 101 (by decide)
  refine lp_Opn_readValues_85 (fun a0 a1 a2 a3 a4 y => 96 = a0 ∧ x = y ∧ ∃ j, nI j = a4 ∧ j ≤ m) (fun _ _ _ _ a4 _ => m - a4.toNatClampNeg) ?_ _ _ _ _ _ _ ⟨rfl, rfl, 0, rfl, Nat.zero_le _⟩
  rintro Q a0 a1 a2 a3 a4 y ⟨rfl, rfl, j, rfl, j1⟩ ih
  unfold j_Opn_readValues_85 j_Opn_readValues_139 j_Opn_readValues_128
  rw [show stC 96 2 = 104 from rfl, show stC 96 8 = 101 from rfl, hv, L101]
  by_cases cj : j < m
  · have nx : Q 96 a1 a2 a3 (nI j + 1) x := by
      rw [nI_1]
      exact ih _ _ _ _ _ _ ⟨rfl, rfl, j + 1, rfl, cj⟩ (by rw [nI_clamp (by omega), nI_clamp (by omega)]; omega)
    exact br_f (by (first | omega | (simp (disch := omega) only [Int32.le_iff_toInt_le, Int32.lt_iff_toInt_lt, z_eq, z_in, nI_toInt, z_cl, z_m1, z_sg, z_255, Int32.reduceToInt] <;> omega) | (simp only [Int32.le_iff_toInt_le, Int32.lt_iff_toInt_lt, z_eq, z_in, z_add, z_sub, z_mul, z_neg, z_nI, z_cl, z_sg, z_255, z_lit, Int32.reduceToInt] <;> omega))) ⟨fun _ => pk, fun _ => ⟨vp_in_nI (by omega) (by decide), vp_in_nI (by omega) (by decide), ⟨fun _ => k_ckf h0 nx, fun _ => k_ckf h0 nx⟩⟩⟩
  · exact br_t (by (first | omega | (simp (disch := omega) only [Int32.le_iff_toInt_le, Int32.lt_iff_toInt_lt, z_eq, z_in, nI_toInt, z_cl, z_m1, z_sg, z_255, Int32.reduceToInt] <;> omega) | (simp only [Int32.le_iff_toInt_le, Int32.lt_iff_toInt_lt, z_eq, z_in, z_add, z_sub, z_mul, z_neg, z_nI, z_cl, z_sg, z_255, z_lit, Int32.reduceToInt] <;> omega))) pk
/-- the values of a page, and that nothing is behind them -/
theorem k_vals {post : St → Prop} {ty how m pg dE : Nat} (hty : ty < 4) (hhow : how < nCod ty) (S : Sr 104 x T n p st) (hm : m ≤ 1000) (hv : fI x 96 9 = nI m) (h15 : fI x 96 15 = 0) (h14 : fI x 96 14 = nI b) (hb : 40000 ≤ b) (hb2 : b ≤ 100000) (h13 : fI x 96 13 = nI dE) (hdE : dE + m ≤ 11000) (hpg : pg < 6000)
    (pe : ∀ e y, (vlR T ty how m st p = .error e ∨ ∃ PW q, vlR T ty how m st p = .ok (PW, q) ∧ q < st ∧ e = 6) → FrVC b x y → FlC 104 y e → post y)
    (pk : ∀ P W y b', vlR T ty how m st p = .ok ((P, W), st) → FrVC b x y → Sr 104 y T n st st → P.length = m → oF P P.length ≤ 20000 → b ≤ b' → b' ≤ b + oF P P.length → fI y 96 14 = nI b' → VsC y 101 0 b' ty P → fI y 96 15 = nI (oF P P.length) → DcO x y pg dE b' ty (trW W) (P = []) → post y) : wp_Opn_readValues (fun y => wp_Src_checkEnd post 104 y) 96 (nI ty) (nI how) (nI pg) x := by
  have hS := S.le
  have hT := S.t
  have hbn : n ≤ b := by omega
  have L101 : fN x 101 = 2000 := S.1.1 101 (by decide)
  -- a fault
  have bad : ∀ e y, vlR T ty how m st p = .error e → FrVC b x y → FlC 104 y e → wp_Src_checkEnd post 104 y := fun e y h1 h2 h3 => k_end0 h3.ne (pe e y (Or.inl h1) h2 h3)
  -- values, and no words
  have good : ∀ P q y b', vlR T ty how m st p = .ok ((P, []), q) → FrVC b x y → Sr 104 y T n q st → oF P P.length ≤ 20000 → b ≤ b' → b' ≤ b + oF P P.length → fI y 96 14 = nI b' → VsC y 101 0 b' ty P → fI y 96 15 = nI (oF P P.length) → fI y 96 13 = fI x 96 13 → fA y 94 = fA x 94 → fL y 95 = fL x 95 → wp_Src_checkEnd post 104 y := fun P q y b' h1 h2 h3 h4 h5 h6 h7 h8 h9 h10 h11 h12 => by
    refine r_end h3 (fun z c z1 z2 => pe 6 z (Or.inr ⟨_, q, h1, c, rfl⟩) (h2.trans (FrVC.sr z1)) z2) (fun c => ?_)
    subst c
    obtain ⟨-, -, vl, -⟩ := vlR_pv hty hT h1 hS.1
    exact pk P [] y b' h1 h2 h3 vl h4 h5 h6 h7 h8 h9 (DcO.no h12 (h10.trans h13) h11)
  have nil0 : ∀ P q, vlR T ty how m st p = .ok ((P, []), q) → ty ≠ 3 → oF P P.length = 0 := fun P q h1 h3 => oF_nil (fun v hv => ((vlR_pv hty hT h1 hS.1).1 v hv).2.1 h3)
  unfold wp_Opn_readValues
  by_cases c0 : ty = 0
  · subst c0
    refine bn_t rfl ?_
    have h2 : how < 2 := hhow
    by_cases ch : how = 1
    · subst ch
      have ev : vlR T 0 1 m st p = noW (bl1 T m st p) := rfl
      refine k_bl1 S (by omega) hv (fun e y y1 y2 y3 => bad e y ?_ (FrVC.sl (by decide) y2) y3) (fun L q y y1 y2 Sy y3 => ?_)
      · rw [ev]; unfold bl1; rw [y1]; rfl
      · have hq := Sy.le
        by_cases cq : q < st
        · have er : vlR T 0 1 m st p = .error 6 := by rw [ev]; unfold bl1; rw [y1]; simp only; rw [if_pos cq]; rfl
          exact r_end Sy (fun z c z1 z2 => pe 6 z (Or.inl er) ((FrVC.sl (by decide) y2).trans (FrVC.sr z1)) z2) (fun c => by omega)
        · have er : vlR T 0 1 m st p = .ok ((L.map (fun v => (lN v, [])), []), q) := by rw [ev]; unfold bl1; rw [y1]; simp only; rw [if_neg cq]; rfl
          have z0 := nil0 _ _ er (by decide)
          exact good _ q y b er (FrVC.sl (by decide) y2) Sy (by omega) (Nat.le_refl _) (by omega) ((y2.ii (by decide)).trans h14) (y3.mono hb) (by rw [z0]; exact (y2.ii (by decide)).trans h15) (y2.ii (by decide)) (y2.aa id) (y2.ll (by decide))
    · have ev : vlR T 0 how m st p = noW (bl0 T m st p) := by unfold vlR; rw [if_pos rfl, if_neg ch]
      refine k_bl0 S (by omega) hv (fun z => ch (nI_inj (b := 1) (by omega) (by decide) z)) (fun e y y1 y2 y3 => bad e y ?_ (FrVC.sl (by decide) y2) y3) (fun P q y y1 y2 Sy y3 => ?_)
      · rw [ev, y1]; rfl
      · have er : vlR T 0 how m st p = .ok ((P, []), q) := by rw [ev, y1]; rfl
        have z0 := nil0 _ _ er (by decide)
        exact good _ q y b er (FrVC.sl (by decide) y2) Sy (by omega) (Nat.le_refl _) (by omega) ((y2.ii (by decide)).trans h14) (y3.mono hb) (by rw [z0]; exact (y2.ii (by decide)).trans h15) (y2.ii (by decide)) (y2.aa id) (y2.ll (by decide))
  refine bn_f (fun z => c0 (nI_inj (b := 0) (by omega) (by decide) z)) ?_
  -- PLAIN
  have plain : how = 0 → wp_Opn_readPlain (fun (x12 : St) => wp_Opn_countTexts (fun (x13 : St) => wp_Src_checkEnd post 104 x13) 96 (nI ty) x12) 96 (nI ty) (stC 96 8) 0 (fI x 96 9) x := fun ch => by
    have ev : vlR T ty how m st p = noW (plR T ty st m [] p) := by
      unfold vlR plR
      rw [if_neg c0]
      by_cases c3 : ty = 3
      · rw [if_pos c3, if_pos c3, if_pos ch]
      · rw [if_neg c3, if_neg c3, if_pos ch]
    rw [show stC 96 8 = 101 from rfl, hv]
    refine k_plain' (r := 101) (a := 0) S (by omega) (by omega) (by omega) hbn (fun e y y1 y2 y3 => k_cnt0 y3.ne (bad e y ?_ (FrVC.sl (by decide) y2) y3)) (fun P q y y1 y2 Sy pl y3 y4 _ => ?_)
    · rw [ev, y1]; rfl
    · have er : vlR T ty how m st p = .ok ((P, []), q) := by rw [ev, y1]; rfl
      have zo : oF P P.length ≤ 20000 := by
        by_cases c3 : ty = 3
        · exact y4 c3
        · rw [nil0 _ _ er c3]; omega
      refine k_cnt hty Sy.h0 Sy.1.1 (by rw [pl]; exact (y2.ii (by decide)).trans hv) (by omega) ((y2.ii (by decide)).trans h15) y3 (by omega) zo (nil0 _ _ er) (fun z z1 z2 => ?_)
      have fz : FrVC b y z := FrVC.of z1 (fun o k w => Or.inr ⟨w.1, Or.inr (Or.inr w.2)⟩) (fun _ _ w => w) (fun _ _ w => w) (fun _ w => w.elim) (fun _ w => w.elim)
      exact good P q z b er ((FrVC.sl (by decide) y2).trans fz) (Sy.cg z1 id (by decide) (by decide) (by decide)) zo (Nat.le_refl _) (by omega) ((z1.ii (by decide)).trans ((y2.ii (by decide)).trans h14)) (y3.up (z1.ll id) (fun i _ => by rw [z1.aa id]) (Nat.le_refl _)) z2 ((z1.ii (by decide)).trans (y2.ii (by decide))) ((z1.aa id).trans (y2.aa id)) ((z1.ll id).trans (y2.ll (by decide)))
  -- a DICTIONARY
  have dict : vlR T ty how m st p = dcR T ty m st p → wp_Opn_readDictionary (fun (x14 : St) => wp_Src_checkEnd post 104 x14) 96 (nI ty) (nI pg) x := fun ev => by
    refine k_dcR (b := b) (by omega) S hm hv h15 hbn (by omega) h13 hdE hpg (fun e y y1 y2 y3 => bad e y (ev.trans y1) y2 y3) (fun P W q y y1 y2 Sy pl po y3 y4 y5 y6 y7 y8 y9 y10 => ?_)
    have er := ev.trans y1
    obtain ⟨-, -, -, -, eq, -⟩ := dcR_pv (by omega) hT y1 hS.1
    subst eq
    refine r_end Sy (fun z c => absurd c (Nat.lt_irrefl _)) (fun _ => pk P W y b er y2 Sy pl po (Nat.le_refl _) (by omega) (y5.trans h14) y3 y4 ⟨y8, ?_⟩)
    unfold trW
    by_cases c : W.length ≤ 100
    · rw [if_pos c]
      exact Or.inr ⟨(y9 c).2, (y9 c).1, y6, c, fun ew => by subst ew; exact dcR_em y1⟩
    · rw [if_neg c]
      exact Or.inl ⟨rfl, y10 (by omega)⟩
  by_cases c3 : ty = 3
  · subst c3
    refine bn_t rfl ?_
    have h4 : how < 4 := hhow
    unfold j_Opn_readValues_23
    by_cases ch3 : how = 3
    · subst ch3
      exact bn_t rfl (dict rfl)
    · refine bn_f (fun z => ch3 (nI_inj (b := 3) (by omega) (by decide) z)) ?_
      by_cases ch0 : how = 0
      · exact bn_t (by rw [ch0]; rfl) (plain ch0)
      · refine bn_f (fun z => ch0 (nI_inj (b := 0) (by omega) (by decide) z)) (br_t rfl ?_)
        by_cases ch1 : how = 1
        · have ev : vlR T 3 how m st p = noW (tx1 T m st p) := by subst ch1; rfl
          refine bn_t (by rw [ch1]; rfl) (k_tx1 (b := b) S hm hv h15 hbn (fun e y y1 y2 y3 => bad e y (by rw [ev, y1]; rfl) y2 y3) (fun P q y y1 y2 Sy pl po y3 y4 y5 y6 y7 y8 => ?_))
          exact good P q y b (by rw [ev, y1]; rfl) y2 Sy po (Nat.le_refl _) (by omega) (y5.trans h14) y3 y4 y6 y7 y8
        · have ch2 : how = 2 := by omega
          have ev : vlR T 3 how m st p = noW (tx2 T m st p) := by subst ch2; rfl
          refine bn_f (fun z => ch1 (nI_inj (b := 1) (by omega) (by decide) z)) (k_tx2 (b := b) S hm hv h15 h14 hbn hb2 (fun e y y1 y2 y3 => bad e y (by rw [ev, y1]; rfl) y2 y3) (fun P q y y1 y2 Sy pl po y3 y4 y5 y6 y7 y8 => ?_))
          exact good P q y _ (by rw [ev, y1]; rfl) y2 Sy po (by omega) (Nat.le_refl _) y5 y3 y4 y6 y7 y8
  · refine bn_f (fun z => c3 (nI_inj (b := 3) (by omega) (by decide) z)) ?_
    have h3 : how < 3 := by unfold nCod at hhow; rw [if_neg c0, if_neg c3] at hhow; exact hhow
    unfold j_Opn_readValues_23
    by_cases ch2 : how = 2
    · exact bn_t (by rw [ch2]; rfl) (dict (by unfold vlR; rw [if_neg c0, if_neg c3, if_neg (by omega), if_neg (by omega)]))
    · refine bn_f (fun z => ch2 (nI_inj (b := 2) (by omega) (by decide) z)) ?_
      by_cases ch0 : how = 0
      · exact bn_t (by rw [ch0]; rfl) (plain ch0)
      · refine bn_f (fun z => ch0 (nI_inj (b := 0) (by omega) (by decide) z)) (br_f (fun z => c3 (nI_inj (b := 3) (by omega) (by decide) z)) ?_)
        have ev : vlR T ty how m st p = noW (wh1 T ty m st p) := by unfold vlR; rw [if_neg c0, if_neg c3, if_neg ch0, if_pos (by omega)]
        rw [show stC 96 8 = 101 from rfl, show stC 96 2 = 104 from rfl, hv]
        refine k_lg so4 S (by omega) L101 (fun e y y1 y2 y3 => ?_) (fun L y y1 y2 Sy y3 => ?_)
        · exact k_wh0 y3.ne (Fg.fic y2 (by decide) S.1).1 (by omega) ((y2.ii (by decide)).trans hv) (bad e y (by rw [ev]; unfold wh1; rw [y1]; rfl) (FrVC.cd (Or.inr rfl) y2) y3)
        · obtain ⟨ll, -, -⟩ := lgs_ok hT y1 hS.1
          have er : vlR T ty how m st p = noW (if ty = 1 ∧ ∃ k, k < m ∧ ¬ inI (L.getD k 0) then .error 7 else .ok (L.map (fun v => (v, [])), st)) := by rw [ev]; unfold wh1; rw [y1]
          refine k_wh Sy (by omega) ((y2.ii (by decide)).trans hv) (by omega) y3 (fun z c z1 z2 => bad 7 z (by rw [er, if_pos c]; rfl) ((FrVC.cd (Or.inr rfl) y2).trans (FrVC.sr z1)) z2) (fun c => ?_)
          have er2 : vlR T ty how m st p = .ok ((L.map (fun v => (v, [])), []), st) := by rw [er, if_neg c]; rfl
          have z0 := nil0 _ _ er2 c3
          refine good _ st y b er2 (FrVC.cd (Or.inr rfl) y2) Sy (by omega) (Nat.le_refl _) (by omega) ((y2.ii (by decide)).trans h14) (fun k hk => ⟨fun _ => ?_, fun z => absurd z c3⟩) (by rw [z0]; exact (y2.ii (by decide)).trans h15) (y2.ii (by decide)) (y2.aa (by decide)) (y2.ll (by decide))
          rw [List.length_map] at hk
          rw [Nat.zero_add, y3 k (by omega)]
          unfold pvd
          rw [List.getD_eq_getElem?_getD (l := L.map _), List.getElem?_map, List.getElem?_eq_getElem hk, List.getD_eq_getElem?_getD, List.getElem?_eq_getElem hk]
          rfl
end
