/-! the model reads rows of values, and groups -/
theorem skip_b {T : Nat → Int32} {n j m : Nat} (h1 : j ≤ m) (h2 : n ≤ m) : skip T n j ≤ m := by
  by_cases c : j ≤ n
  · have := @skip_le T n j c; omega
  · rw [skip_no (fun z => by omega)]; exact h1
theorem s_takesSign_i {post : Int32 → St → Prop} {v : Int32} {x : St} {T : Nat → Int32} {n j : Nat} (h : TxM x T n) (hk : fI x 0 16 = nI j) (hb : j ≤ 40000) (he : fI x 0 17 ≠ -1) (p : post 0 (setI x 0 16 (nI (skip T n j)))) : wp_Mod_takesSign post v x := by
  unfold wp_Mod_takesSign j_Mod_takesSign_20
  exact s_blanks h hk hb (bn_f he p)
theorem s_wantSign_i {post : St → Prop} {v : Int32} {x : St} {T : Nat → Int32} {n j : Nat} (h : TxM x T n) (hk : fI x 0 16 = nI j) (hb : j ≤ 40000) (he : fI x 0 17 ≠ -1) (p : post (setI x 0 16 (nI (skip T n j)))) : wp_Mod_wantSign post v x := by
  unfold wp_Mod_wantSign
  refine s_takesSign_i h hk hb he (bn_t rfl (s_fail ?_))
  rw [if_neg (show ¬ fI (setI x 0 16 (nI (skip T n j))) 0 17 = -1 from he)]
  exact p
/-- a fault was met -/
def errR (x y : St) (e : Int32) : Prop := FrR x y ∧ e ≠ -1 ∧ fI y 0 17 = e ∧ ∃ j, j ≤ 4100 ∧ fI y 0 16 = nI j
def okV (T : Nat → Int32) (n : Nat) (F : List SFd) (P : PGr) (p f : Nat) (SV : (St → Prop) → Int32 → Int32 → St → Prop) : Prop := ∀ (post : St → Prop) (x : St) (k : Nat) (L : List SNd) (s : Nat), RsM x T n F k L s → L.length + 1 ≤ k → (∀ y, outR x y T n F k (pVal T n F P k p f L) → post y) → SV post (nI p) (nI f) x
theorem s_row {T : Nat → Int32} {n : Nat} {F : List SFd} {P : PGr} {p f : Nat} {SG SR SV : (St → Prop) → Int32 → Int32 → St → Prop} (hV : okV T n F P p f SV) {post : St → Prop} {x : St} {k s : Nat} {L : List SNd} (h : RsM x T n F k L s) (hb : L.length + 1 ≤ k) (h2 : fKd F f = 2)
    (q : ∀ y, outR x y T n F k (pVals T n F P k p f L) → post y) : wb_Mod_readRow post SG SR SV (nI p) (nI f) x := by
  have hk := h.2.2.2.2.2.2.2.1
  have h9 := h.2.2.2.2.2.2.2.2.1
  have hs := @skip_le T n k hk
  have hg := skip_ge T n k
  unfold pVals at q
  rw [if_pos h2] at q
  -- a fault ends it
  have fin : ∀ (y : St) (r : Int32 × Nat × List SNd), (∀ y, outR x y T n F k r → post y) → errR x y r.1 → ∃ m, wl_Mod_readRow_16 post SG SR SV m (nI p) (nI f) y := by
    intro y r hr he
    refine ⟨1, ?_⟩
    show j_Mod_readRow_16 post SG SR SV _ _ _ _
    unfold j_Mod_readRow_16
    exact bn_f (by rw [he.2.2.1]; exact he.2.1) (hr y ⟨he.1, Or.inr ⟨he.2.1, he.2.2.1, he.2.2.2⟩⟩)
  unfold wb_Mod_readRow
  refine s_wantSign h.1 h.2.2.2.2.1 hk (by decide) (fun _ a b => ?_) (fun _ c => ?_) (fun z => absurd h.2.2.2.2.2.1 z)
  · rw [if_pos ⟨a, b⟩] at q
    have h1 := h.go (show k ≤ skip T n k + 1 by omega) (by omega)
    have hs1 := @skip_le T n (skip T n k + 1) (by omega)
    have hg1 := skip_ge T n (skip T n k + 1)
    refine s_takesSign h1.1 h1.2.2.2.2.1 h1.2.2.2.2.2.2.2.1 (by decide) (fun _ a2 b2 => br_f (by decide) ?_) (fun c => br_t rfl ?_)
    · rw [if_pos ⟨a2, b2⟩] at q
      exact q _ ⟨(FrR.i (by decide)).trans (FrR.i (by decide)), Or.inl ⟨rfl, by dsimp only; omega, by dsimp only; omega, s, h1.go (by omega) (by omega)⟩⟩
    · rw [if_neg (fun z => c ⟨h.2.2.2.2.2.1, z⟩)] at q
      have hskip : ∀ d, pRow T n F P p f (d + 1) (skip T n (skip T n k + 1)) L = pRow T n F P p f (d + 1) (skip T n k + 1) L := by
        intro d
        · have e : pVal T n F P (skip T n (skip T n k + 1)) p f L = pVal T n F P (skip T n k + 1) p f L := by unfold pVal; rw [skip_skip]
          show (if (pVal T n F P (skip T n (skip T n k + 1)) p f L).1 = -1 then _ else _) = (if (pVal T n F P (skip T n k + 1) p f L).1 = -1 then _ else _)
          rw [e]
      rw [← hskip] at q
      refine lp_Mod_readRow_16 (fun a0 a1 y => nI p = a0 ∧ nI f = a1 ∧ ((∃ d k2 L2 s2, FrR x y ∧ RsM y T n F k2 L2 s2 ∧ L2.length + 1 ≤ k2 ∧ k < k2 ∧ n - k2 < d ∧ pRow T n F P p f (n + 1) (skip T n (skip T n k + 1)) L = pRow T n F P p f d k2 L2) ∨ errR x y (pRow T n F P p f (n + 1) (skip T n (skip T n k + 1)) L).1)) (fun _ _ y => if fI y 0 17 = -1 then n + 1 - (fI y 0 16).toNatClampNeg else 0) ?_ _ _ _ ⟨rfl, rfl, Or.inl ⟨n + 1, _, L, s, (FrR.i (by decide)).trans (FrR.i (by decide)), h1.go hg1 hs1, by omega, by omega, by omega, rfl⟩⟩
      rintro R a0 a1 y ⟨rfl, rfl, ⟨d, k2, L2, s2, f1, f2, f3, f4, f5, f6⟩ | he⟩ ih
      · have hk2 := f2.2.2.2.2.2.2.2.1
        cases d with
        | zero => omega
        | succ d =>
        have e0 := f6
        have e0 : pRow T n F P p f (n + 1) (skip T n (skip T n k + 1)) L = if (pVal T n F P k2 p f L2).1 = -1 then (if skip T n (pVal T n F P k2 p f L2).2.1 < n ∧ T (skip T n (pVal T n F P k2 p f L2).2.1) = 93 then (-1, skip T n (pVal T n F P k2 p f L2).2.1 + 1, (pVal T n F P k2 p f L2).2.2) else if skip T n (pVal T n F P k2 p f L2).2.1 < n ∧ T (skip T n (pVal T n F P k2 p f L2).2.1) = 44 then pRow T n F P p f d (skip T n (pVal T n F P k2 p f L2).2.1 + 1) (pVal T n F P k2 p f L2).2.2 else (nI (skip T n (pVal T n F P k2 p f L2).2.1), skip T n (pVal T n F P k2 p f L2).2.1, (pVal T n F P k2 p f L2).2.2)) else pVal T n F P k2 p f L2 := f6
        unfold j_Mod_readRow_16
        refine bn_t f2.2.2.2.2.2.1 (hV _ y k2 L2 s2 f2 f3 (fun z o => ?_))
        generalize hr : pVal T n F P k2 p f L2 = r at *
        rcases o.2 with ⟨o1, o2, o3, s3, o4⟩ | ⟨o1, o2, j, o3, o4⟩
        · rw [if_pos o1] at e0
          have hk3 := o4.2.2.2.2.2.2.2.1
          have hs3 := @skip_le T n r.2.1 hk3
          have hg3 := skip_ge T n r.2.1
          have fz := f1.trans o.1
          refine s_takesSign o4.1 o4.2.2.2.2.1 hk3 (by decide) (fun _ a2 b2 => br_f (by decide) ?_) (fun c2 => br_t rfl ?_)
          · rw [if_pos ⟨a2, b2⟩] at e0
            rw [e0] at q
            exact q _ ⟨fz.trans (FrR.i (by decide)), Or.inl ⟨rfl, by dsimp only; omega, by dsimp only; omega, s3, o4.go (by omega) (by omega)⟩⟩
          · rw [if_neg (fun w => c2 ⟨o4.2.2.2.2.2.1, w⟩)] at e0
            have h3 := o4.go hg3 hs3
            refine s_wantSign h3.1 h3.2.2.2.2.1 hs3 (by decide) (fun _ a3 b3 => ?_) (fun _ c3 => ?_) (fun w => absurd h3.2.2.2.2.2.1 w)
            · rw [skip_skip] at a3 b3 ⊢
              rw [if_pos ⟨a3, b3⟩] at e0
              refine ih _ _ _ ⟨rfl, rfl, Or.inl ⟨d, _, r.2.2, s3, (fz.trans (FrR.i (by decide))).trans (FrR.i (by decide)), h3.go (by omega) (by omega), by omega, by omega, by omega, e0⟩⟩ ?_
              rw [if_pos f2.2.2.2.2.2.1, if_pos (show fI (setI (setI z 0 16 (nI (skip T n r.2.1))) 0 16 (nI (skip T n r.2.1 + 1))) 0 17 = -1 from o4.2.2.2.2.2.1)]
              rw [f2.2.2.2.2.1, show fI (setI (setI z 0 16 (nI (skip T n r.2.1))) 0 16 (nI (skip T n r.2.1 + 1))) 0 16 = nI (skip T n r.2.1 + 1) from rfl, nI_clamp (by omega), nI_clamp (by omega)]
              omega
            · rw [skip_skip] at c3 ⊢
              rw [if_neg c3] at e0
              have nn : ¬ nI (skip T n r.2.1) = -1 := nI_nm1 (by omega)
              refine ih _ _ _ ⟨rfl, rfl, Or.inr ⟨((fz.trans (FrR.i (by decide))).trans (FrR.i (by decide))).trans (FrR.i (by decide)), by rw [e0]; exact nn, by rw [e0]; rfl, skip T n r.2.1, by omega, rfl⟩⟩ ?_
              rw [if_pos f2.2.2.2.2.2.1, if_neg (show ¬ fI (setI (setI (setI z 0 16 (nI (skip T n r.2.1))) 0 16 (nI (skip T n r.2.1))) 0 17 (nI (skip T n r.2.1))) 0 17 = -1 from nn), f2.2.2.2.2.1, nI_clamp (by omega)]
              omega
        · rw [if_neg o1] at e0
          have Tz := (f2.1).r o.1
          have fz := f1.trans o.1
          have e17 : fI z 0 17 ≠ -1 := by rw [o2]; exact o1
          refine s_takesSign_i Tz o4 (by omega) e17 (br_t rfl (s_wantSign_i (Tz.I (by decide)) rfl (Nat.le_trans (skip_b o3 (by omega)) (by omega)) e17 ?_))
          refine ih _ _ _ ⟨rfl, rfl, Or.inr ⟨(fz.trans (FrR.i (by decide))).trans (FrR.i (by decide)), by rw [e0]; exact o1, by rw [e0]; exact o2, _, skip_b (skip_b o3 (by omega)) (by omega), rfl⟩⟩ ?_
          rw [if_pos f2.2.2.2.2.2.1, if_neg (show ¬ fI (setI (setI z 0 16 (nI (skip T n j))) 0 16 (nI (skip T n (skip T n j)))) 0 17 = -1 from e17), f2.2.2.2.2.1, nI_clamp (by omega)]
          omega
      · unfold j_Mod_readRow_16
        exact bn_f (by rw [he.2.2.1]; exact he.2.1) (q y ⟨he.1, Or.inr ⟨he.2.1, he.2.2.1, he.2.2.2⟩⟩)
  · rw [if_neg c] at q
    have nn : ¬ nI (skip T n k) = -1 := nI_nm1 (by omega)
    refine s_takesSign_i ((h.1.I (by decide)).I (by decide)) (j := skip T n k) rfl (by omega) (show ¬ fI (setI (setI x 0 16 (nI (skip T n k))) 0 17 (nI (skip T n k))) 0 17 = -1 from nn) (br_t rfl (fin _ _ q ⟨((FrR.i (by decide)).trans (FrR.i (by decide))).trans (FrR.i (by decide)), nn, rfl, _, skip_b (show skip T n k ≤ 4100 by omega) (by omega), rfl⟩))
