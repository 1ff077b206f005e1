/-! what can't be isn't -/
theorem ltV_lt_le {ty : Nat} {a b c : PV} (h : ltV ty a b) (k : ¬ ltV ty c b) : ltV ty a c := by
  by_cases d : ltV ty b c
  · exact ltV_tr h d
  · exact (ltV_cg (ltV_tot d k)).1.mp h
theorem ltV_le_lt {ty : Nat} {a b c : PV} (k : ¬ ltV ty b a) (h : ltV ty b c) : ltV ty a c := by
  by_cases d : ltV ty a b
  · exact ltV_tr d h
  · exact (ltV_cg (ltV_tot d k)).2.mpr h
theorem sg0 {c : Int32} (h1 : ¬ c < 0) (h2 : ¬ 0 < c) : c = 0 := by (first | omega | (simp (disch := omega) only [Int32.le_iff_toInt_le, Int32.lt_iff_toInt_lt, z_eq, z_in, nI_toInt, z_cl, z_m1, z_sg, z_255, Int32.reduceToInt] at * <;> omega) | (simp only [Int32.le_iff_toInt_le, Int32.lt_iff_toInt_lt, z_eq, z_in, z_add, z_sub, z_mul, z_neg, z_nI, z_cl, z_sg, z_255, z_lit, Int32.reduceToInt] at * <;> omega))
theorem cHl_of {ty op : Nat} {p q lo hi ld hd : PV} (h5 : op ≤ 5) (op1 : okVv ty p) (oq : okVv ty q) (ol : okVv ty lo) (oh : okVv ty hi) (od : okVv ty ld) (oe : okVv ty hd) (h1 : ¬ ltV ty p lo) (h2 : ¬ ltV ty hi p) (h3 : ¬ ltV ty q ld) (h4 : ¬ ltV ty hd q) (h : hld op (cmpV ty p q) = true) : cHl op (cmpV ty lo hd) (cmpV ty hi ld) = true := by
  obtain ⟨a1, a2⟩ := cmpV_lt op1 oq
  obtain ⟨b1, b2⟩ := cmpV_lt ol oe
  obtain ⟨c1, c2⟩ := cmpV_lt oh od
  have f1 : ltV ty p q → ltV ty lo hd := fun z => ltV_lt_le (ltV_le_lt h1 z) h4
  have f2 : ltV ty q p → ltV ty ld hi := fun z => ltV_lt_le (ltV_le_lt h3 z) h2
  have g1 : ltV ty hd lo → ltV ty q p := fun z => ltV_lt_le (ltV_le_lt h4 z) h1
  have g2 : ltV ty hi ld → ltV ty p q := fun z => ltV_lt_le (ltV_le_lt h2 z) h3
  generalize cmpV ty p q = a at *
  generalize cmpV ty lo hd = b at *
  generalize cmpV ty hi ld = c at *
  have e : op = 0 ∨ op = 1 ∨ op = 2 ∨ op = 3 ∨ op = 4 ∨ op = 5 := by omega
  rcases e with e | e | e | e | e | e <;> subst e
  · have h : a = 0 := of_decide_eq_true h
    have n1 : ¬ 0 < b := fun z => by
      have := a2.mpr (g1 (b2.mp z))
      rw [h] at this
      exact absurd this (by decide)
    have n2 : ¬ c < 0 := fun z => by
      have := a1.mpr (g2 (c1.mp z))
      rw [h] at this
      exact absurd this (by decide)
    show (decide (b ≤ 0) && decide (0 ≤ c)) = true
    rw [decide_eq_true (show b ≤ 0 by clear h; (first | omega | (simp (disch := omega) only [Int32.le_iff_toInt_le, Int32.lt_iff_toInt_lt, z_eq, z_in, nI_toInt, z_cl, z_m1, z_sg, z_255, Int32.reduceToInt] at * <;> omega) | (simp only [Int32.le_iff_toInt_le, Int32.lt_iff_toInt_lt, z_eq, z_in, z_add, z_sub, z_mul, z_neg, z_nI, z_cl, z_sg, z_255, z_lit, Int32.reduceToInt] at * <;> omega))), decide_eq_true (show 0 ≤ c by clear h; (first | omega | (simp (disch := omega) only [Int32.le_iff_toInt_le, Int32.lt_iff_toInt_lt, z_eq, z_in, nI_toInt, z_cl, z_m1, z_sg, z_255, Int32.reduceToInt] at * <;> omega) | (simp only [Int32.le_iff_toInt_le, Int32.lt_iff_toInt_lt, z_eq, z_in, z_add, z_sub, z_mul, z_neg, z_nI, z_cl, z_sg, z_255, z_lit, Int32.reduceToInt] at * <;> omega)))]
    rfl
  · have h : ¬ a = 0 := of_decide_eq_true h
    show (decide (¬ b = 0) || decide (¬ c = 0)) = true
    by_cases d : a < 0
    · have := b1.mpr (f1 (a1.mp d))
      rw [decide_eq_true (show ¬ b = 0 from fun z => by rw [z] at this; exact absurd this (by decide))]
      rfl
    · have d2 : 0 < a := Classical.byContradiction (fun z => h (sg0 d z))
      have := c2.mpr (f2 (a2.mp d2))
      rw [decide_eq_true (show ¬ c = 0 from fun z => by rw [z] at this; exact absurd this (by decide)), Bool.or_true]
  · have h : a < 0 := of_decide_eq_true h
    exact decide_eq_true (b1.mpr (f1 (a1.mp h)))
  · have h : a ≤ 0 := of_decide_eq_true h
    have n1 : ¬ 0 < b := fun z => by
      have := a2.mpr (g1 (b2.mp z))
      (first | omega | (simp (disch := omega) only [Int32.le_iff_toInt_le, Int32.lt_iff_toInt_lt, z_eq, z_in, nI_toInt, z_cl, z_m1, z_sg, z_255, Int32.reduceToInt] at * <;> omega) | (simp only [Int32.le_iff_toInt_le, Int32.lt_iff_toInt_lt, z_eq, z_in, z_add, z_sub, z_mul, z_neg, z_nI, z_cl, z_sg, z_255, z_lit, Int32.reduceToInt] at * <;> omega))
    exact decide_eq_true (show b ≤ 0 by (first | omega | (simp (disch := omega) only [Int32.le_iff_toInt_le, Int32.lt_iff_toInt_lt, z_eq, z_in, nI_toInt, z_cl, z_m1, z_sg, z_255, Int32.reduceToInt] at * <;> omega) | (simp only [Int32.le_iff_toInt_le, Int32.lt_iff_toInt_lt, z_eq, z_in, z_add, z_sub, z_mul, z_neg, z_nI, z_cl, z_sg, z_255, z_lit, Int32.reduceToInt] at * <;> omega)))
  · have h : 0 < a := of_decide_eq_true h
    exact decide_eq_true (c2.mpr (f2 (a2.mp h)))
  · have h : 0 ≤ a := of_decide_eq_true h
    have n2 : ¬ c < 0 := fun z => by
      have := a1.mpr (g2 (c1.mp z))
      (first | omega | (simp (disch := omega) only [Int32.le_iff_toInt_le, Int32.lt_iff_toInt_lt, z_eq, z_in, nI_toInt, z_cl, z_m1, z_sg, z_255, Int32.reduceToInt] at * <;> omega) | (simp only [Int32.le_iff_toInt_le, Int32.lt_iff_toInt_lt, z_eq, z_in, z_add, z_sub, z_mul, z_neg, z_nI, z_cl, z_sg, z_255, z_lit, Int32.reduceToInt] at * <;> omega))
    exact decide_eq_true (show 0 ≤ c by (first | omega | (simp (disch := omega) only [Int32.le_iff_toInt_le, Int32.lt_iff_toInt_lt, z_eq, z_in, nI_toInt, z_cl, z_m1, z_sg, z_255, Int32.reduceToInt] at * <;> omega) | (simp only [Int32.le_iff_toInt_le, Int32.lt_iff_toInt_lt, z_eq, z_in, z_add, z_sub, z_mul, z_neg, z_nI, z_cl, z_sg, z_255, z_lit, Int32.reduceToInt] at * <;> omega)))
/-- a row's value lies in what is told -/
def RwT (ty : Nat) (t : Tl) (o : Option PV) : Prop := (o = none → 0 < t.2.1) ∧ ∀ p, o = some p → t.2.1 < t.1 ∧ okVv ty p ∧ okVv ty t.2.2.1 ∧ okVv ty t.2.2.2.1 ∧ ¬ ltV ty p t.2.2.1 ∧ ¬ ltV ty t.2.2.2.1 p ∧ (t.2.2.2.2 ≠ [] → p ∈ t.2.2.2.2)
theorem canC_of {ty op : Nat} {t : Tl} {p l : PV} (h5 : op ≤ 5) (h : RwT ty t (some p)) (ol : okVv ty l) (hh : hld op (cmpV ty p l) = true) : canC ty op t l = true := by
  obtain ⟨h1, h2, h3, h4, h5', h6, h7⟩ := h.2 p rfl
  unfold canC
  by_cases c : t.2.2.2.2 = []
  · rw [if_pos c]
    exact cHl_of h5 h2 ol h3 h4 ol ol h5' h6 ltV_irr ltV_irr hh
  · rw [if_neg c]
    exact List.any_eq_true.mpr ⟨p, h7 c, hh⟩
theorem sub3_2 {f u : Bool} {t : Bool} (h : t = true) : sub3 2 (mkS f t u) := by
  unfold sub3
  rw [(mkS_b _ _ _).1, (mkS_b _ _ _).2.1, (mkS_b _ _ _).2.2]
  exact ⟨fun z => absurd z (by decide), fun _ => h, fun z => absurd z (by decide)⟩
theorem sub3_1 {f u : Bool} {t : Bool} (h : f = true) : sub3 1 (mkS f t u) := by
  unfold sub3
  rw [(mkS_b _ _ _).1, (mkS_b _ _ _).2.1, (mkS_b _ _ _).2.2]
  exact ⟨fun _ => h, fun z => absurd z (by decide), fun z => absurd z (by decide)⟩
theorem sub3_4 {f u : Bool} {t : Bool} (h : u = true) : sub3 4 (mkS f t u) := by
  unfold sub3
  rw [(mkS_b _ _ _).1, (mkS_b _ _ _).2.1, (mkS_b _ _ _).2.2]
  exact ⟨fun z => absurd z (by decide), fun z => absurd z (by decide), fun _ => h⟩
theorem hld0 {c : Int32} : hld 0 c = decide (c = 0) := rfl
theorem tst_sub {F : List SFd} {L : List QLt} {v : Nat → Option PV} {τ : Nat → Tl} {s : QSt} (hs : stW F L s) (n5 : ¬ s.1 = 5) (n6 : ¬ s.1 = 6) (n7 : ¬ s.1 = 7) (h1 : RwT (tOf F s.2.1) (τ (cOf F s.2.1)) (v (cOf F s.2.1))) (h2 : s.1 = 4 → RwT (tOf F s.2.1) (τ (cOf F s.2.2.2.1)) (v (cOf F s.2.2.2.1))) (hL : L.length < 2 ^ 31) : sub3 (tst F L v s) (canS F L τ s) := by
  have okL2 : s.1 = 2 → ∀ i, i < fOf s.2.2.2.2 → okVv (tOf F s.2.1) (lvl (L.getD (fOf s.2.2.2.1 + i) lt0)) := by
    intro c i hi
    rcases hs with ⟨f, -, e | e⟩ | ⟨f, a, m, -, -, h3, h4, e⟩ | ⟨f, op, a, -, ho, -, -, e⟩ | ⟨f, op, g, -, ho, -, -, e⟩ | e | e | e
    · rw [e] at c; exact absurd c (by show ¬ (0 : Int32) = 2; decide)
    · rw [e] at c; exact absurd c (by show ¬ (1 : Int32) = 2; decide)
    · rw [e] at hi ⊢
      have hi : i < (nI m).toNatClampNeg := hi
      rw [nI_clamp (by omega)] at hi
      show okVv _ (lvl (L.getD ((nI a).toNatClampNeg + i) lt0))
      rw [nI_clamp (by omega)]
      exact fun _ => (h4 (a + i) (by omega) (by omega)).2
    · rw [e] at c; exact absurd c (by show ¬ (3 : Int32) = 2; decide)
    · rw [e] at c; exact absurd c (by show ¬ (4 : Int32) = 2; decide)
    · rw [e] at n5; exact absurd rfl n5
    · rw [e] at n6; exact absurd rfl n6
    · rw [e] at n7; exact absurd rfl n7
  have okL3 : s.1 = 3 → okVv (tOf F s.2.1) (lvl (L.getD (fOf s.2.2.2.1) lt0)) := by
    intro c
    rcases hs with ⟨f, -, e | e⟩ | ⟨f, a, m, -, -, h3, h4, e⟩ | ⟨f, op, a, -, ho, ha, h4, e⟩ | ⟨f, op, g, -, ho, -, -, e⟩ | e | e | e
    · rw [e] at c; exact absurd c (by show ¬ (0 : Int32) = 3; decide)
    · rw [e] at c; exact absurd c (by show ¬ (1 : Int32) = 3; decide)
    · rw [e] at c; exact absurd c (by show ¬ (2 : Int32) = 3; decide)
    · rw [e]
      show okVv _ (lvl (L.getD ((nI a).toNatClampNeg) lt0))
      rw [nI_clamp (by omega)]
      exact fun _ => h4.2
    · rw [e] at c; exact absurd c (by show ¬ (4 : Int32) = 3; decide)
    · rw [e] at n5; exact absurd rfl n5
    · rw [e] at n6; exact absurd rfl n6
    · rw [e] at n7; exact absurd rfl n7
  have kinds : s.1 = 0 ∨ s.1 = 1 ∨ s.1 = 2 ∨ s.1 = 3 ∧ fOf s.2.2.1 ≤ 5 ∨ s.1 = 4 ∧ fOf s.2.2.1 ≤ 5 := by
    have cl : ∀ m : Nat, m ≤ 5 → fOf (nI m) ≤ 5 := fun m hm => by unfold fOf; rw [nI_clamp (by omega)]; exact hm
    rcases hs with ⟨f, -, e | e⟩ | ⟨f, a, m, -, -, -, -, e⟩ | ⟨f, op, a, -, ho, -, -, e⟩ | ⟨f, op, g, -, ho, -, -, e⟩ | e | e | e
    · rw [e]; exact Or.inl rfl
    · rw [e]; exact Or.inr (Or.inl rfl)
    · rw [e]; exact Or.inr (Or.inr (Or.inl rfl))
    · rw [e]; exact Or.inr (Or.inr (Or.inr (Or.inl ⟨rfl, cl op ho⟩)))
    · rw [e]; exact Or.inr (Or.inr (Or.inr (Or.inr ⟨rfl, cl op ho⟩)))
    · rw [e] at n5; exact absurd rfl n5
    · rw [e] at n6; exact absurd rfl n6
    · rw [e] at n7; exact absurd rfl n7
  unfold tst canS
  simp only
  generalize τ (cOf F s.2.1) = t at *
  rcases kinds with c | c | c | ⟨c, ho⟩ | ⟨c, ho⟩
  · rw [if_pos c, if_pos c]
    cases hv : v (cOf F s.2.1) with
    | none => exact sub3_2 (decide_eq_true (h1.1 hv))
    | some p => exact sub3_1 (decide_eq_true (h1.2 p hv).1)
  · rw [if_neg (by rw [c]; decide), if_pos c, if_neg (by rw [c]; decide), if_pos c]
    cases hv : v (cOf F s.2.1) with
    | none => exact sub3_1 (decide_eq_true (h1.1 hv))
    | some p => exact sub3_2 (decide_eq_true (h1.2 p hv).1)
  · rw [if_neg (by rw [c]; decide), if_neg (by rw [c]; decide), if_neg (by rw [c]; decide), if_neg (by rw [c]; decide), if_neg (by rw [c]; decide)]
    cases hv : v (cOf F s.2.1) with
    | none =>
      have u := decide_eq_true (h1.1 hv)
      show sub3 4 _
      split
      · rw [if_neg (by rw [c]; decide)]; exact sub3_4 u
      · exact sub3_4 u
    | some p =>
      rw [hv] at h1
      obtain ⟨q1, q2, q3, q4, q5, q6, q7⟩ := h1.2 p rfl
      show sub3 (if s.1 = 2 then _ else _) _
      rw [if_pos c, if_pos q1, if_neg (show ¬ s.1 = 3 by rw [c]; decide)]
      by_cases d : isL L (tOf F s.2.1) (fOf s.2.2.2.1) (fOf s.2.2.2.2) p = true
      · rw [if_pos d]
        refine sub3_2 ?_
        obtain ⟨i, hi, hd⟩ := List.any_eq_true.mp d
        exact List.any_eq_true.mpr ⟨i, hi, canC_of (by decide) h1 (okL2 c i (List.mem_range.mp hi)) hd⟩
      · rw [if_neg d]
        refine sub3_1 ?_
        by_cases w : t.2.2.2.2 = []
        · rw [if_pos w]
          by_cases e : cmpV (tOf F s.2.1) t.2.2.1 t.2.2.2.1 = 0
          · have nl : isL L (tOf F s.2.1) (fOf s.2.2.2.1) (fOf s.2.2.2.2) t.2.2.1 = false := by
              cases z : isL L (tOf F s.2.1) (fOf s.2.2.2.1) (fOf s.2.2.2.2) t.2.2.1 with
              | false => rfl
              | true =>
                exfalso
                obtain ⟨i, hi, hd⟩ := List.any_eq_true.mp z
                have hd : cmpV (tOf F s.2.1) t.2.2.1 (lvl (L.getD (fOf s.2.2.2.1 + i) lt0)) = 0 := of_decide_eq_true hd
                refine d (List.any_eq_true.mpr ⟨i, hi, decide_eq_true ?_⟩)
                obtain ⟨a1, a2⟩ := cmpV_lt q3 q4
                obtain ⟨b1, b2⟩ := cmpV_lt q3 (okL2 c i (List.mem_range.mp hi))
                obtain ⟨c1, c2⟩ := cmpV_lt q2 (okL2 c i (List.mem_range.mp hi))
                rw [e] at a1 a2
                rw [hd] at b1 b2
                have nn : ¬ (0 : Int32) < 0 := by decide
                refine sg0 (fun z => ?_) (fun z => ?_)
                · exact nn (b1.mpr (ltV_le_lt q5 (c1.mp z)))
                · have k1 := c2.mp z
                  have k2 := ltV_lt_le k1 q6
                  exact nn (b2.mpr (ltV_lt_le k2 (fun y => nn (a1.mpr y))))
            rw [nl, Bool.not_false, Bool.or_true]
          · rw [decide_eq_true e, Bool.true_or]
        · rw [if_neg w]
          refine List.any_eq_true.mpr ⟨p, q7 w, ?_⟩
          have : isL L (tOf F s.2.1) (fOf s.2.2.2.1) (fOf s.2.2.2.2) p = false := by cases z : isL L (tOf F s.2.1) (fOf s.2.2.2.1) (fOf s.2.2.2.2) p; rfl; exact absurd z d
          rw [this]
          rfl
  · rw [if_neg (by rw [c]; decide), if_neg (by rw [c]; decide), if_neg (by rw [c]; decide), if_neg (by rw [c]; decide), if_neg (by rw [c]; decide)]
    cases hv : v (cOf F s.2.1) with
    | none =>
      have u := decide_eq_true (h1.1 hv)
      show sub3 4 _
      by_cases q : t.2.1 < t.1
      · rw [if_pos q, if_pos c]; exact sub3_4 u
      · rw [if_neg q]; exact sub3_4 u
    | some p =>
      rw [hv] at h1
      obtain ⟨q1, q2, q3, q4, q5, q6, q7⟩ := h1.2 p rfl
      show sub3 (if s.1 = 2 then _ else if s.1 = 3 then _ else _) _
      rw [if_neg (by rw [c]; decide), if_pos c, if_pos q1, if_pos c]
      by_cases d : hld (fOf s.2.2.1) (cmpV (tOf F s.2.1) p (lvl (L.getD (fOf s.2.2.2.1) lt0))) = true
      · rw [if_pos d]
        exact sub3_2 (canC_of ho h1 (okL3 c) d)
      · rw [if_neg d]
        refine sub3_1 (canC_of (ctr_le ho) h1 (okL3 c) ?_)
        rw [hld_ctr ho]
        cases z : hld (fOf s.2.2.1) (cmpV (tOf F s.2.1) p (lvl (L.getD (fOf s.2.2.2.1) lt0)))
        · rfl
        · exact absurd z d
  · have h2 := h2 c
    generalize τ (cOf F s.2.2.2.1) = u at *
    rw [if_neg (by rw [c]; decide), if_neg (by rw [c]; decide), if_neg (by rw [c]; decide), if_neg (by rw [c]; decide), if_pos c]
    cases hv : v (cOf F s.2.1) with
    | none =>
      have w := decide_eq_true (h1.1 hv)
      show sub3 4 _
      rw [w, Bool.true_or]
      split
      · exact sub3_4 rfl
      · exact sub3_4 rfl
    | some p =>
      show sub3 (if s.1 = 2 then _ else if s.1 = 3 then _ else _) _
      rw [if_neg (by rw [c]; decide), if_neg (by rw [c]; decide)]
      cases hq : v (cOf F s.2.2.2.1) with
      | none =>
        have w := decide_eq_true (h2.1 hq)
        show sub3 4 _
        rw [w, Bool.or_true]
        split
        · exact sub3_4 rfl
        · exact sub3_4 rfl
      | some q =>
        obtain ⟨a1, a2, a3, a4, a5, a6, a7⟩ := h1.2 p hv
        obtain ⟨b1, b2, b3, b4, b5, b6, b7⟩ := h2.2 q hq
        rw [if_pos ⟨a1, b1⟩]
        show sub3 (if _ then _ else _) _
        by_cases d : hld (fOf s.2.2.1) (cmpV (tOf F s.2.1) p q) = true
        · rw [if_pos d]
          exact sub3_2 (cHl_of ho a2 b2 a3 a4 b3 b4 a5 a6 b5 b6 d)
        · rw [if_neg d]
          refine sub3_1 (cHl_of (ctr_le ho) a2 b2 a3 a4 b3 b4 a5 a6 b5 b6 ?_)
          rw [hld_ctr ho]
          cases z : hld (fOf s.2.2.1) (cmpV (tOf F s.2.1) p q)
          · rfl
          · exact absurd z d
