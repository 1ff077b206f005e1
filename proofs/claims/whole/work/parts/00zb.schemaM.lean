/-! the model: schema() -/
/-- the input: T, of n bytes -/
def InM (x : St) (T : Nat → Int32) (n : Nat) : Prop := fI x 0 4 = nI n ∧ n ≤ 40000 ∧ ∀ i, i < n → fA x 2 i = T i ∧ 0 ≤ T i ∧ T i ≤ 255
def s1lo (a : Nat) : Nat := if a = 8 then 2048 else if a = 9 ∨ a = 10 then 1 else if a = 11 then 64 else 128
/-- what schema() leaves as it was -/
def FrSc (x y : St) : Prop := (∀ o k, ¬ (o = 0 ∧ (k = 0 ∨ k = 4 ∨ k = 14 ∨ k = 15 ∨ k = 16 ∨ k = 17 ∨ k = 34 ∨ k = 35 ∨ k = 36)) → y.1 o k = x.1 o k) ∧ (∀ a i, (3 ≤ a → a ≤ 11 → s1lo a ≤ i ∧ i < limS a) → (a = 23 → i ≠ 0) → y.2.2.2.1 a i = x.2.2.2.1 a i) ∧ y.2.1 = x.2.1 ∧ y.2.2.1 = x.2.2.1 ∧ y.2.2.2.2 = x.2.2.2.2
theorem FrSc.trans {x y z : St} (h : FrSc x y) (k : FrSc y z) : FrSc x z :=
  ⟨fun o i c => (k.1 o i c).trans (h.1 o i c), fun a i c d => (k.2.1 a i c d).trans (h.2.1 a i c d), k.2.2.1.trans h.2.2.1, k.2.2.2.1.trans h.2.2.2.1, k.2.2.2.2.trans h.2.2.2.2⟩
theorem FrS.sc {x y : St} (h : FrS x y) : FrSc x y := by
  refine ⟨fun o k c => h.1 o k (fun z => c ⟨z.1, ?_⟩), fun a i c _ => h.2.1 a i (fun p q => (c p q).2), h.2.2.1, h.2.2.2.1, h.2.2.2.2⟩
  rcases z.2 with e | e <;> simp [e]
theorem FrSc.I {x : St} {k : Nat} {v : Int32} (h : k = 0 ∨ k = 4 ∨ k = 14 ∨ k = 15 ∨ k = 16 ∨ k = 17 ∨ k = 34 ∨ k = 35 ∨ k = 36) : FrSc x (setI x 0 k v) := by
  refine ⟨fun a b c => ?_, fun _ _ _ _ => rfl, rfl, rfl, rfl⟩
  show (if a = 0 ∧ b = k then v else x.1 a b) = _
  rw [if_neg (fun z => c ⟨z.1, by rw [z.2]; exact h⟩)]
theorem RepM_kp {x : St} {q : Nat} {F : List SFd} {X : Nat → Nat → Int32} (hw : WfS F) (hq : q < 2) (h : RepM x 2 F) (hX : ∀ a, a ≠ 9 → a ≠ 10 → X a = x.2.2.2.1 a) (h9 : X 9 q = nI F.length) (h10 : X 10 q = nI (ncol F)) : RepM (rowsW x (kpR X q F.length (16 * F.length) (ncol F))) q F := by
  obtain ⟨-, -, h3, h4⟩ := h
  have hF := hw.1
  refine ⟨h9, h10, fun f hf => ?_, fun f hf ht => ?_⟩
  · obtain ⟨g1, g2, g3, g4, g5, g6⟩ := h3 f hf
    have cp : ∀ a, a = 3 ∨ a = 4 ∨ a = 5 ∨ a = 6 ∨ a = 7 → fA (rowsW x (kpR X q F.length (16 * F.length) (ncol F))) a (128 * q + f) = fA x a (128 * 2 + f) := by
      intro a ha
      show kpR X q F.length (16 * F.length) (ncol F) a (128 * q + f) = _
      unfold kpR
      rw [if_pos ha]
      show (if 128 * q ≤ 128 * q + f ∧ 128 * q + f < 128 * q + F.length then X a (256 + (128 * q + f - 128 * q)) else _) = _
      rw [if_pos (by omega), show 256 + (128 * q + f - 128 * q) = 128 * 2 + f by omega, hX a (by omega) (by omega)]
    refine ⟨by rw [cp 3 (by decide)]; exact g1, by rw [cp 4 (by decide)]; exact g2, by rw [cp 5 (by decide)]; exact g3, by rw [cp 7 (by decide)]; exact g4, fun i hi => ?_, by rw [cp 6 (by decide)]; exact g6⟩
    have h16 := (hw.2.2.2.1 f hf).2.2.2.2
    rw [← g5 i hi]
    show (if 2048 * q ≤ 16 * (128 * q + f) + i ∧ 16 * (128 * q + f) + i < 2048 * q + 16 * F.length then X 8 (4096 + (16 * (128 * q + f) + i - 2048 * q)) else _) = _
    rw [if_pos (by omega), show 4096 + (16 * (128 * q + f) + i - 2048 * q) = 16 * (128 * 2 + f) + i by omega, hX 8 (by decide) (by decide)]
  · have q1 := ncol_lt hf ht
    rw [← h4 f hf ht]
    show (if 64 * q ≤ 64 * q + ncol (F.take f) ∧ 64 * q + ncol (F.take f) < 64 * q + ncol F then X 11 (128 + (64 * q + ncol (F.take f) - 64 * q)) else _) = _
    rw [if_pos (by omega), show 128 + (64 * q + ncol (F.take f) - 64 * q) = 64 * 2 + ncol (F.take f) by omega, hX 11 (by decide) (by decide)]
theorem FrSc.kp {y : St} {N C : Nat} {v w : Int32} {X : Nat → Nat → Int32} (hX : ∀ a, a ≠ 9 → a ≠ 10 → X a = y.2.2.2.1 a) (h9 : X 9 = upd (y.2.2.2.1 9) 0 v) (h10 : X 10 = upd (y.2.2.2.1 10) 0 w) (hN : N ≤ 128) (hC : C ≤ 64) : FrSc y (rowsW y (kpR X 0 N (16 * N) C)) := by
  refine ⟨fun _ _ _ => rfl, fun a i c _ => ?_, rfl, rfl, rfl⟩
  show kpR X 0 N (16 * N) C a i = _
  unfold kpR
  by_cases a1 : a = 3 ∨ a = 4 ∨ a = 5 ∨ a = 6 ∨ a = 7
  · have l : s1lo a = 128 := by rcases a1 with e | e | e | e | e <;> rw [e] <;> decide
    have := (c (by omega) (by omega)).1
    rw [if_pos a1, cpy_old (by omega), hX a (by omega) (by omega)]
  rw [if_neg a1]
  by_cases a8 : a = 8
  · subst a8
    have : 2048 ≤ i := (c (by decide) (by decide)).1
    rw [if_pos rfl, cpy_old (by omega), hX 8 (by decide) (by decide)]
  rw [if_neg a8]
  by_cases a11 : a = 11
  · subst a11
    have : 64 ≤ i := (c (by decide) (by decide)).1
    rw [if_pos rfl, cpy_old (by omega), hX 11 (by decide) (by decide)]
  rw [if_neg a11]
  by_cases a9 : a = 9
  · subst a9
    have : 1 ≤ i := (c (by decide) (by decide)).1
    rw [h9, upd_ne (by omega)]
  by_cases a10 : a = 10
  · subst a10
    have : 1 ≤ i := (c (by decide) (by decide)).1
    rw [h10, upd_ne (by omega)]
  rw [hX a a9 a10]
theorem FrSc.A23 {y : St} {v : Int32} : FrSc y (setA y 23 0 v) := by
  refine ⟨fun _ _ _ => rfl, fun a i _ d => ?_, rfl, rfl, rfl⟩
  show (if a = 23 then upd (y.2.2.2.1 23) (0 : Int32).toNatClampNeg v else y.2.2.2.1 a) i = _
  by_cases e : a = 23
  · subst e
    rw [if_pos rfl, show (0 : Int32).toNatClampNeg = 0 from rfl, upd_ne (d rfl)]
  · rw [if_neg e]
theorem s_schema {post : Int32 → St → Prop} {x : St} {T : Nat → Int32} {n : Nat} (hL : LM x) (h : InM x T n)
    (pL : 4000 < n → ∀ y, FrSc x y → fI y 0 4 = 0 → fI y 0 14 = fI x 0 14 → fI y 0 34 = fI x 0 34 → fI y 0 35 = fI x 0 35 → fI y 0 36 = fI x 0 36 → (∀ a i, a < 12 ∨ 12 ≤ a → fA y a i = fA x a i) → post 4000 y)
    (pE : n ≤ 4000 → ∀ e y, e ≠ -1 → (∃ c, ∀ d, (runS T n (d + c) [] 0 (-1)).1 = e) → FrSc x y → fI y 0 4 = 0 → fI y 0 14 = fI x 0 14 → fI y 0 34 = fI x 0 34 → fI y 0 35 = fI x 0 35 → fI y 0 36 = fI x 0 36 → (∀ a i, (3 ≤ a → a ≤ 11 → i < limS a) → fA y a i = fA x a i) → post e y)
    (pO : n ≤ 4000 → ∀ F y, WfS F → F ≠ [] → (∃ c, ∀ d, runS T n (d + c) [] 0 (-1) = (-1, F)) → FrSc x y → fI y 0 4 = 0 → RepM y 0 F → fI y 0 14 = 1 → fI y 0 34 = 0 → fI y 0 35 = 0 → fI y 0 36 = 0 → fA y 23 0 = 0 → post (-1) y) : wp_Mod_schema post x := by
  obtain ⟨h1, h2, h3⟩ := h
  unfold wp_Mod_schema wp_Mod_begins
  refine nm_e (nm_e (nm_e (nm_e (nm_e ?_))))
  rw [show fI (setI x 0 0 0) 0 4 = nI n from h1]
  have fB : FrSc x (setI (setI (setI (setI (setI x 0 0 0) 0 15 (nI n)) 0 4 0) 0 16 0) 0 17 (-1)) :=
    ((((FrSc.I (by simp)).trans (FrSc.I (by simp))).trans (FrSc.I (by simp))).trans (FrSc.I (by simp))).trans (FrSc.I (by simp))
  have b4 : fI (setI (setI (setI (setI (setI x 0 0 0) 0 15 (nI n)) 0 4 0) 0 16 0) 0 17 (-1)) 0 4 = 0 := rfl
  have bI : ∀ k, k ≠ 0 → k ≠ 15 → k ≠ 4 → k ≠ 16 → k ≠ 17 → fI (setI (setI (setI (setI (setI x 0 0 0) 0 15 (nI n)) 0 4 0) 0 16 0) 0 17 (-1)) 0 k = fI x 0 k := fun k a b c d e => by rw [gI_ne e, gI_ne d, gI_ne c, gI_ne b, gI_ne a]
  have bA : ∀ a, fA (setI (setI (setI (setI (setI x 0 0 0) 0 15 (nI n)) 0 4 0) 0 16 0) 0 17 (-1)) a = fA x a := fun a => rfl
  have bT : TxM (setI (setI (setI (setI (setI x 0 0 0) 0 15 (nI n)) 0 4 0) 0 16 0) 0 17 (-1)) T n := ⟨rfl, h2, hL 2, h3⟩
  have b15 : fI (setI (setI (setI (setI (setI x 0 0 0) 0 15 (nI n)) 0 4 0) 0 16 0) 0 17 (-1)) 0 15 = nI n := rfl
  have bL : LM (setI (setI (setI (setI (setI x 0 0 0) 0 15 (nI n)) 0 4 0) 0 16 0) 0 17 (-1)) := hL
  have b16 : fI (setI (setI (setI (setI (setI x 0 0 0) 0 15 (nI n)) 0 4 0) 0 16 0) 0 17 (-1)) 0 16 = nI 0 := rfl
  have b17 : fI (setI (setI (setI (setI (setI x 0 0 0) 0 15 (nI n)) 0 4 0) 0 16 0) 0 17 (-1)) 0 17 = -1 := rfl
  generalize setI (setI (setI (setI (setI x 0 0 0) 0 15 (nI n)) 0 4 0) 0 16 0) 0 17 (-1) = B at *
  rw [b15]
  by_cases c : n ≤ 4000
  · refine br_t (by (first | omega | (simp (disch := omega) only [Int32.le_iff_toInt_le, Int32.lt_iff_toInt_lt, z_eq, z_in, nI_toInt, z_cl, z_m1, z_sg, z_255, Int32.reduceToInt] <;> omega) | (simp only [Int32.le_iff_toInt_le, Int32.lt_iff_toInt_lt, z_eq, z_in, z_add, z_sub, z_mul, z_neg, z_nI, z_cl, z_sg, z_255, z_lit, Int32.reduceToInt] <;> omega))) ?_
    have n2 : (2 : Int32) = nI 2 := rfl
    rw [bL 9, n2]
    refine ⟨vp_in_nI (by decide) (by decide), nm_e ⟨by show vp_in _ (fN B 10); rw [bL 10]; exact vp_in_nI (by decide) (by decide), nm_e ?_⟩⟩
    have fD : FrS B (setA (setA B 9 (nI 2) 0) 10 (nI 2) 0) := (FrS.A (by decide) (by decide) (by decide) (by decide)).trans (FrS.A (by decide) (by decide) (by decide) (by decide))
    have sD : StM (setA (setA B 9 (nI 2) 0) 10 (nI 2) 0) T n [] 0 (-1) := by
      refine ⟨bT.fr fD, bL.fr fD, ⟨?_, ?_, fun f hf => absurd hf (Nat.not_lt_zero f), fun f hf => absurd hf (Nat.not_lt_zero f)⟩, ⟨by decide, by decide, ⟨by decide, fun f hf => absurd hf (Nat.not_lt_zero f)⟩, fun f hf => absurd hf (Nat.not_lt_zero f), fun f _ hf => absurd hf (Nat.not_lt_zero f), fun f hf => absurd hf (Nat.not_lt_zero f), fun f h _ hf => absurd hf (Nat.not_lt_zero h)⟩, b16, b17, Nat.zero_le _, c⟩
      · rw [gA_ne (by decide), gA_at, nI_clamp (by decide), upd_at]; rfl
      · rw [gA_at, nI_clamp (by decide), upd_at]; rfl
    generalize setA (setA B 9 (nI 2) 0) 10 (nI 2) 0 = D at *
    have fin65 : ∀ F k e y, FrS B y → StM y T n F k e → (e ≠ -1 → ∃ c, ∀ d, (runS T n (d + c) [] 0 (-1)).1 = e) → (e = -1 → F ≠ [] ∧ ∃ c, ∀ d, runS T n (d + c) [] 0 (-1) = (-1, F)) → j_Mod_schema_65 post y := by
      intro F k e y fy sy hE hO
      unfold j_Mod_schema_65
      rw [sy.2.2.2.2.2.1]
      have yI : ∀ k, k ≠ 16 → k ≠ 17 → fI y 0 k = fI B 0 k := fun k a b => fy.1 0 k (fun z => z.2.elim a b)
      by_cases ce : e = -1
      · refine br_t ce ?_
        obtain ⟨hF, hrun⟩ := hO ce
        have hw := sy.2.2.2.1
        refine s_keepSchema (q := 0) sy.2.1 (by decide) sy.2.2.1.1 hw.1 sy.2.2.1.2.1 hw.2.1 (nm_e ?_)
        generalize hX : (fun a => if a = 9 then upd (y.2.2.2.1 9) 0 (nI F.length) else if a = 10 then upd (y.2.2.2.1 10) 0 (nI (ncol F)) else y.2.2.2.1 a) = X
        have x9 : X 9 = upd (y.2.2.2.1 9) 0 (nI F.length) := by rw [← hX]; rfl
        have x10 : X 10 = upd (y.2.2.2.1 10) 0 (nI (ncol F)) := by rw [← hX]; rfl
        have xo : ∀ a, a ≠ 9 → a ≠ 10 → X a = y.2.2.2.1 a := fun a a9 a10 => by rw [← hX]; show (if a = 9 then _ else if a = 10 then _ else _) = _; rw [if_neg a9, if_neg a10]
        have rK := RepM_kp hw (q := 0) (by decide) sy.2.2.1 xo (by rw [x9, upd_at]) (by rw [x10, upd_at])
        have fK : FrSc y (rowsW y (kpR X 0 F.length (16 * F.length) (ncol F))) := FrSc.kp xo x9 x10 hw.1 hw.2.1
        have k4 : fI (rowsW y (kpR X 0 F.length (16 * F.length) (ncol F))) 0 4 = fI y 0 4 := rfl
        generalize rowsW y (kpR X 0 F.length (16 * F.length) (ncol F)) = K at *
        have lK : fN K 23 = 2001 := by
          show K.2.2.2.2.2 23 = _
          rw [fK.2.2.2.2]
          exact sy.2.1 23
        unfold wp_Mod_empty
        refine nm_e (nm_e (nm_e ⟨by show vp_in _ (fN K 23); rw [lK]; exact vp_in_nI (n := 0) (by decide) (by decide), nm_e (pO c F _ hw hF hrun ?_ ?_ ?_ rfl rfl rfl rfl ?_)⟩))
        · exact ((((((fB.trans fy.sc).trans fK).trans (FrSc.I (by simp))).trans (FrSc.I (by simp))).trans (FrSc.I (by simp))).trans (FrSc.I (by simp))).trans FrSc.A23
        · show fI K 0 4 = 0
          rw [k4, yI 4 (by decide) (by decide)]
          exact b4
        · exact ⟨by rw [gA_ne (by decide)]; exact rK.1, by rw [gA_ne (by decide)]; exact rK.2.1, fun f hf => by
            rw [gA_ne (by decide), gA_ne (by decide), gA_ne (by decide), gA_ne (by decide), gA_ne (by decide), gA_ne (by decide)]
            exact rK.2.2.1 f hf, fun f hf ht => by rw [gA_ne (by decide)]; exact rK.2.2.2 f hf ht⟩
        · rw [gA_at]
          exact upd_at
      · refine br_f ce (pE c e y ce (hE ce) (fB.trans fy.sc) ((yI 4 (by decide) (by decide)).trans b4) ?_ ?_ ?_ ?_ ?_)
        · rw [yI 14 (by decide) (by decide), bI 14 (by decide) (by decide) (by decide) (by decide) (by decide)]
        · rw [yI 34 (by decide) (by decide), bI 34 (by decide) (by decide) (by decide) (by decide) (by decide)]
        · rw [yI 35 (by decide) (by decide), bI 35 (by decide) (by decide) (by decide) (by decide) (by decide)]
        · rw [yI 36 (by decide) (by decide), bI 36 (by decide) (by decide) (by decide) (by decide) (by decide)]
        · intro a i hi
          rw [← bA a]
          exact fy.2.1 a i hi
    refine lp_Mod_schema_37 (fun y => ∃ F k, FrS B y ∧ StM y T n F k (-1) ∧ rdHere T n F k (-1) ∧ ∃ c, ∀ d, runS T n (d + c) [] 0 (-1) = runS T n d F k (-1)) (fun y => n - (fI y 0 16).toNatClampNeg) ?_ _ ⟨[], 0, fD, sD, ⟨fun z => z.2.2 rfl, fun z => z.2.2.1 rfl⟩, 0, fun _ => rfl⟩
    rintro R y ⟨F, k, fy, sy, hr, hrun⟩ ih
    have hk := sy.2.2.2.2.2.2.1
    unfold j_Mod_schema_37
    refine s_readField 200 _ y F k (-1) sy (Or.inl rfl) (by omega) hr (fun y2 o => ?_)
    obtain ⟨G, k2, e, o1, o2, o3, o4⟩ := o
    have hk2 := o2.2.2.2.2.2.2.1
    have hs2 := @skip_le T n k2 hk2
    have hg2 := skip_ge T n k2
    refine s_blanks o2.1 o2.2.2.2.2.1 (by omega) ?_
    have s3 := o2.go hs2
    have f3 : FrS B (setI y2 0 16 (nI (skip T n k2))) := (fy.trans o1).trans FrS.at16
    by_cases ce : e = -1
    · obtain ⟨q1, q2, q3, q4, q5⟩ := o4 ce
      refine bn_t (s3.2.2.2.2.2.1.trans ce) ?_
      rw [s3.2.2.2.2.1, s3.1.1]
      by_cases cs : skip T n k2 < n
      · refine br_t (by (first | omega | (simp (disch := omega) only [Int32.le_iff_toInt_le, Int32.lt_iff_toInt_lt, z_eq, z_in, nI_toInt, z_cl, z_m1, z_sg, z_255, Int32.reduceToInt] <;> omega) | (simp only [Int32.le_iff_toInt_le, Int32.lt_iff_toInt_lt, z_eq, z_in, z_add, z_sub, z_mul, z_neg, z_nI, z_cl, z_sg, z_255, z_lit, Int32.reduceToInt] <;> omega))) ?_
        subst ce
        refine ih _ ⟨G, skip T n k2, f3, s3, ⟨fun z => by rw [skip_skip] at z; exact z.1 cs, fun z => z.2.2.1 rfl⟩, ?_⟩ ?_
        · refine mc_trans hrun ?_
          obtain ⟨c, hc⟩ := q5
          exact ⟨c, fun d => by rw [hc, runS_skip]⟩
        · show n - (nI (skip T n k2)).toNatClampNeg < n - (fI y 0 16).toNatClampNeg
          rw [sy.2.2.2.2.1, nI_clamp (by omega), nI_clamp (by omega)]
          omega
      · refine br_f (by (first | omega | (simp (disch := omega) only [Int32.le_iff_toInt_le, Int32.lt_iff_toInt_lt, z_eq, z_in, nI_toInt, z_cl, z_m1, z_sg, z_255, Int32.reduceToInt] <;> omega) | (simp only [Int32.le_iff_toInt_le, Int32.lt_iff_toInt_lt, z_eq, z_in, z_add, z_sub, z_mul, z_neg, z_nI, z_cl, z_sg, z_255, z_lit, Int32.reduceToInt] <;> omega))) (fin65 G _ e _ f3 s3 (fun z => absurd ce z) (fun _ => ⟨fun z => by rw [z] at q3; exact absurd q3 (Nat.not_lt_zero _), ?_⟩))
        obtain ⟨c1, hc1⟩ := mc_trans hrun q5
        refine ⟨1 + c1, fun d => ?_⟩
        rw [show d + (1 + c1) = d + 1 + c1 by omega, hc1]
        show (if ¬ skip T n k2 < n ∧ (-1 : Int32) = -1 ∧ G ≠ [] then _ else _) = _
        rw [if_pos ⟨cs, rfl, fun z => by rw [z] at q3; exact absurd q3 (Nat.not_lt_zero _)⟩]
    · exact bn_f (fun z => ce (s3.2.2.2.2.2.1.symm.trans z)) (fin65 G _ e _ f3 s3 (fun z => mc_err hrun (o3 z)) (fun z => absurd z ce))
  · refine br_f (by (first | omega | (simp (disch := omega) only [Int32.le_iff_toInt_le, Int32.lt_iff_toInt_lt, z_eq, z_in, nI_toInt, z_cl, z_m1, z_sg, z_255, Int32.reduceToInt] <;> omega) | (simp only [Int32.le_iff_toInt_le, Int32.lt_iff_toInt_lt, z_eq, z_in, z_add, z_sub, z_mul, z_neg, z_nI, z_cl, z_sg, z_255, z_lit, Int32.reduceToInt] <;> omega))) (pL (by omega) B fB b4 ?_ ?_ ?_ ?_ (fun a i _ => by rw [bA]))
    · exact bI 14 (by decide) (by decide) (by decide) (by decide) (by decide)
    · exact bI 34 (by decide) (by decide) (by decide) (by decide) (by decide)
    · exact bI 35 (by decide) (by decide) (by decide) (by decide) (by decide)
    · exact bI 36 (by decide) (by decide) (by decide) (by decide) (by decide)
