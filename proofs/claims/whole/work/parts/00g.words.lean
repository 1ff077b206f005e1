/-! words: as numbers (the model), as bytes (the class) -/
def vw (T : Nat → Int32) (k : Nat) : Nat → Nat
  | 0 => 0
  | i + 1 => vw T k i * 256 + (T (k + i)).toNatClampNeg
theorem by_of {v : Int32} (h0 : 0 ≤ v) (h1 : v ≤ 255) : ∃ t, t < 256 ∧ v = nI t := by
  refine ⟨v.toInt.toNat, ?_, ?_⟩ <;> (first | omega | (simp (disch := omega) only [Int32.le_iff_toInt_le, Int32.lt_iff_toInt_lt, z_eq, z_in, nI_toInt, z_cl, z_m1, z_sg, z_255, Int32.reduceToInt] at * <;> omega) | (simp only [Int32.le_iff_toInt_le, Int32.lt_iff_toInt_lt, z_eq, z_in, z_add, z_sub, z_mul, z_neg, z_nI, z_cl, z_sg, z_255, z_lit, Int32.reduceToInt] at * <;> omega))
theorem vw_lt {T : Nat → Int32} {k : Nat} : ∀ {m : Nat}, (∀ i, i < m → 0 ≤ T (k + i) ∧ T (k + i) ≤ 255) → vw T k m < 256 ^ m := by
  intro m
  induction m with
  | zero => intro _; exact (by decide : 0 < 256 ^ 0)
  | succ m ih =>
    intro h
    have h1 := ih (fun i hi => h i (by omega))
    obtain ⟨t, ht, e⟩ := by_of (h m (by omega)).1 (h m (by omega)).2
    show vw T k m * 256 + (T (k + m)).toNatClampNeg < 256 ^ (m + 1)
    rw [e, nI_clamp (by omega), Nat.pow_succ]
    omega
theorem wv_vw {T : Nat → Int32} {k : Nat} : ∀ {m : Nat}, m ≤ 8 → (∀ i, i < m → 0 ≤ T (k + i) ∧ T (k + i) ≤ 127) → wv T k m = lN (vw T k m) := by
  intro m
  induction m with
  | zero => intro _ _; rfl
  | succ m ih =>
    intro hm h
    have h1 := ih (by omega) (fun i hi => h i (by omega))
    have h2 : vw T k m < 256 ^ m := vw_lt (fun i hi => ⟨(h i (by omega)).1, by have := (h i (by omega)).2; (first | omega | (simp (disch := omega) only [Int32.le_iff_toInt_le, Int32.lt_iff_toInt_lt, z_eq, z_in, nI_toInt, z_cl, z_m1, z_sg, z_255, Int32.reduceToInt] at * <;> omega) | (simp only [Int32.le_iff_toInt_le, Int32.lt_iff_toInt_lt, z_eq, z_in, z_add, z_sub, z_mul, z_neg, z_nI, z_cl, z_sg, z_255, z_lit, Int32.reduceToInt] at * <;> omega))⟩)
    have h3 : 256 ^ m ≤ 256 ^ 7 := Nat.pow_le_pow_right (by decide) (by omega)
    obtain ⟨t, ht, e⟩ := by_of (h m (by omega)).1 (by have := (h m (by omega)).2; (first | omega | (simp (disch := omega) only [Int32.le_iff_toInt_le, Int32.lt_iff_toInt_lt, z_eq, z_in, nI_toInt, z_cl, z_m1, z_sg, z_255, Int32.reduceToInt] at * <;> omega) | (simp only [Int32.le_iff_toInt_le, Int32.lt_iff_toInt_lt, z_eq, z_in, z_add, z_sub, z_mul, z_neg, z_nI, z_cl, z_sg, z_255, z_lit, Int32.reduceToInt] at * <;> omega)))
    show (wv T k m <<< ((8 : Int32).toInt64 &&& 63)) ||| (T (k + m)).toInt64 = lN (vw T k m * 256 + (T (k + m)).toNatClampNeg)
    rw [h1, e, nI_clamp (by omega), nI_l (by omega), show (8 : Int32) = nI 8 from rfl, wb_shl _ (by decide)]
    exact g_or (k := 8) (p := 256) rfl ht (by omega)
theorem vw_inj {T S : Nat → Int32} {k j : Nat} : ∀ {m m' : Nat}, (∀ i, i < m → 1 ≤ T (k + i) ∧ T (k + i) ≤ 255) → (∀ i, i < m' → 1 ≤ S (j + i) ∧ S (j + i) ≤ 255) → vw T k m = vw S j m' → m = m' ∧ ∀ i, i < m → T (k + i) = S (j + i) := by
  intro m
  induction m with
  | zero =>
    intro m' _ h2 e
    cases m' with
    | zero => exact ⟨rfl, fun i hi => by omega⟩
    | succ m' =>
      exfalso
      have e : 0 = vw S j m' * 256 + (S (j + m')).toNatClampNeg := e
      have := h2 m' (by omega)
      (first | omega | (simp (disch := omega) only [Int32.le_iff_toInt_le, Int32.lt_iff_toInt_lt, z_eq, z_in, nI_toInt, z_cl, z_m1, z_sg, z_255, Int32.reduceToInt] at * <;> omega) | (simp only [Int32.le_iff_toInt_le, Int32.lt_iff_toInt_lt, z_eq, z_in, z_add, z_sub, z_mul, z_neg, z_nI, z_cl, z_sg, z_255, z_lit, Int32.reduceToInt] at * <;> omega))
  | succ m ih =>
    intro m' h1 h2 e
    cases m' with
    | zero =>
      exfalso
      have e : vw T k m * 256 + (T (k + m)).toNatClampNeg = 0 := e
      have := h1 m (by omega)
      (first | omega | (simp (disch := omega) only [Int32.le_iff_toInt_le, Int32.lt_iff_toInt_lt, z_eq, z_in, nI_toInt, z_cl, z_m1, z_sg, z_255, Int32.reduceToInt] at * <;> omega) | (simp only [Int32.le_iff_toInt_le, Int32.lt_iff_toInt_lt, z_eq, z_in, z_add, z_sub, z_mul, z_neg, z_nI, z_cl, z_sg, z_255, z_lit, Int32.reduceToInt] at * <;> omega))
    | succ m' =>
      have e : vw T k m * 256 + (T (k + m)).toNatClampNeg = vw S j m' * 256 + (S (j + m')).toNatClampNeg := e
      have a1 := h1 m (by omega)
      have a2 := h2 m' (by omega)
      have q : vw T k m = vw S j m' ∧ T (k + m) = S (j + m') := by
        generalize T (k + m) = u at *
        generalize S (j + m') = w at *
        clear ih h1 h2
        refine ⟨?_, ?_⟩ <;> (first | omega | (simp (disch := omega) only [Int32.le_iff_toInt_le, Int32.lt_iff_toInt_lt, z_eq, z_in, nI_toInt, z_cl, z_m1, z_sg, z_255, Int32.reduceToInt] at * <;> omega) | (simp only [Int32.le_iff_toInt_le, Int32.lt_iff_toInt_lt, z_eq, z_in, z_add, z_sub, z_mul, z_neg, z_nI, z_cl, z_sg, z_255, z_lit, Int32.reduceToInt] at * <;> omega))
      obtain ⟨g1, g2⟩ := ih (fun i hi => h1 i (by omega)) (fun i hi => h2 i (by omega)) q.1
      refine ⟨by omega, fun i hi => ?_⟩
      by_cases c : i < m
      · exact g2 i c
      · have : i = m := by omega
        subst this
        rw [q.2, g1]
/-- the word at a place is this one -/
abbrev isWd (T : Nat → Int32) (n k : Nat) (b : List Nat) : Prop := wln T n k = b.length ∧ ∀ i, i < b.length → T (k + i) = nI (b.getD i 0)
/-- a word's own number -/
def bW (b : List Nat) : Nat := vw (fun i => nI (b.getD i 0)) 0 b.length
def goodW (b : List Nat) : Prop := 0 < b.length ∧ b.length ≤ 8 ∧ ∀ i, i < b.length → 1 ≤ b.getD i 0 ∧ b.getD i 0 ≤ 127
theorem wch_bd {v : Int32} (h : wch v) : 48 ≤ v ∧ v ≤ 122 := by
  unfold wch ltr dgt at h
  (first | omega | (simp (disch := omega) only [Int32.le_iff_toInt_le, Int32.lt_iff_toInt_lt, z_eq, z_in, nI_toInt, z_cl, z_m1, z_sg, z_255, Int32.reduceToInt] at * <;> omega) | (simp only [Int32.le_iff_toInt_le, Int32.lt_iff_toInt_lt, z_eq, z_in, z_add, z_sub, z_mul, z_neg, z_nI, z_cl, z_sg, z_255, z_lit, Int32.reduceToInt] at * <;> omega))
theorem wv_word {T : Nat → Int32} {n k : Nat} {b : List Nat} (hb : goodW b) : (if wln T n k ≤ 8 then wv T k (wln T n k) else 0) = lN (bW b) ↔ isWd T n k b := by
  obtain ⟨b1, b2, b3⟩ := hb
  have hB : ∀ i, i < b.length → 1 ≤ nI (b.getD (0 + i) 0) ∧ nI (b.getD (0 + i) 0) ≤ 255 := by
    intro i hi
    have := b3 i hi
    rw [Nat.zero_add]
    (first | omega | (simp (disch := omega) only [Int32.le_iff_toInt_le, Int32.lt_iff_toInt_lt, z_eq, z_in, nI_toInt, z_cl, z_m1, z_sg, z_255, Int32.reduceToInt] <;> omega) | (simp only [Int32.le_iff_toInt_le, Int32.lt_iff_toInt_lt, z_eq, z_in, z_add, z_sub, z_mul, z_neg, z_nI, z_cl, z_sg, z_255, z_lit, Int32.reduceToInt] <;> omega))
  have hlt : bW b < 256 ^ b.length := vw_lt (T := fun i => nI (b.getD i 0)) (k := 0) (fun i hi => by
    have := b3 i hi
    show 0 ≤ nI (b.getD (0 + i) 0) ∧ nI (b.getD (0 + i) 0) ≤ 255
    rw [Nat.zero_add]
    (first | omega | (simp (disch := omega) only [Int32.le_iff_toInt_le, Int32.lt_iff_toInt_lt, z_eq, z_in, nI_toInt, z_cl, z_m1, z_sg, z_255, Int32.reduceToInt] <;> omega) | (simp only [Int32.le_iff_toInt_le, Int32.lt_iff_toInt_lt, z_eq, z_in, z_add, z_sub, z_mul, z_neg, z_nI, z_cl, z_sg, z_255, z_lit, Int32.reduceToInt] <;> omega)))
  have hp : 256 ^ b.length ≤ 256 ^ 8 := Nat.pow_le_pow_right (by decide) b2
  have hT : ∀ i, i < wln T n k → 48 ≤ T (k + i) ∧ T (k + i) ≤ 122 := fun i hi => wch_bd (wln_all hi).2
  by_cases c : wln T n k ≤ 8
  · rw [if_pos c, wv_vw c (fun i hi => by have := hT i hi; generalize T (k + i) = u at *; clear hT hB; (first | omega | (simp (disch := omega) only [Int32.le_iff_toInt_le, Int32.lt_iff_toInt_lt, z_eq, z_in, nI_toInt, z_cl, z_m1, z_sg, z_255, Int32.reduceToInt] at * <;> omega) | (simp only [Int32.le_iff_toInt_le, Int32.lt_iff_toInt_lt, z_eq, z_in, z_add, z_sub, z_mul, z_neg, z_nI, z_cl, z_sg, z_255, z_lit, Int32.reduceToInt] at * <;> omega)))]
    have hl : vw T k (wln T n k) < 256 ^ (wln T n k) := vw_lt (fun i hi => by have := hT i hi; generalize T (k + i) = u at *; clear hT hB; (first | omega | (simp (disch := omega) only [Int32.le_iff_toInt_le, Int32.lt_iff_toInt_lt, z_eq, z_in, nI_toInt, z_cl, z_m1, z_sg, z_255, Int32.reduceToInt] at * <;> omega) | (simp only [Int32.le_iff_toInt_le, Int32.lt_iff_toInt_lt, z_eq, z_in, z_add, z_sub, z_mul, z_neg, z_nI, z_cl, z_sg, z_255, z_lit, Int32.reduceToInt] at * <;> omega)))
    have hp2 : 256 ^ (wln T n k) ≤ 256 ^ 8 := Nat.pow_le_pow_right (by decide) c
    constructor
    · intro e
      have e2 : vw T k (wln T n k) = bW b := by
        have z := congrArg (fun y : Int64 => y.toBitVec.toNat) e
        simp only [wb_tn (show vw T k (wln T n k) < 2 ^ 64 by omega), wb_tn (show bW b < 2 ^ 64 by omega)] at z
        exact z
      obtain ⟨g1, g2⟩ := vw_inj (S := fun i => nI (b.getD i 0)) (j := 0) (fun i hi => by have := hT i hi; generalize T (k + i) = u at *; clear hT hB; (first | omega | (simp (disch := omega) only [Int32.le_iff_toInt_le, Int32.lt_iff_toInt_lt, z_eq, z_in, nI_toInt, z_cl, z_m1, z_sg, z_255, Int32.reduceToInt] at * <;> omega) | (simp only [Int32.le_iff_toInt_le, Int32.lt_iff_toInt_lt, z_eq, z_in, z_add, z_sub, z_mul, z_neg, z_nI, z_cl, z_sg, z_255, z_lit, Int32.reduceToInt] at * <;> omega))) hB e2
      refine ⟨g1, fun i hi => ?_⟩
      have := g2 i (by omega)
      rw [Nat.zero_add] at this
      exact this
    · intro w
      rw [w.1]
      have e2 : ∀ m, m ≤ b.length → vw T k m = vw (fun i => nI (b.getD i 0)) 0 m := by
        intro m
        induction m with
        | zero => intro _; rfl
        | succ m ih =>
          intro hm
          show vw T k m * 256 + (T (k + m)).toNatClampNeg = vw _ 0 m * 256 + (nI (b.getD (0 + m) 0)).toNatClampNeg
          rw [ih (by omega), w.2 m (by omega), Nat.zero_add]
      exact congrArg lN (e2 _ (Nat.le_refl _))
  · rw [if_neg c]
    constructor
    · intro e
      exfalso
      have z := congrArg (fun y : Int64 => y.toBitVec.toNat) e
      have e0 : (0 : Int64) = lN 0 := rfl
      rw [e0] at z
      simp only [wb_tn (show 0 < 2 ^ 64 by decide), wb_tn (show bW b < 2 ^ 64 by omega)] at z
      cases hbl : b.length with
      | zero => omega
      | succ m =>
        have z2 : bW b = vw (fun i => nI (b.getD i 0)) 0 m * 256 + (nI (b.getD (0 + m) 0)).toNatClampNeg := by unfold bW; rw [hbl]; rfl
        have := b3 m (by omega)
        rw [Nat.zero_add, nI_clamp (by omega)] at z2
        omega
    · intro w
      have := w.1
      omega
theorem s_sees {post : Int32 → St → Prop} {W : Int64} {b : List Nat} {x : St} {T : Nat → Int32} {n k : Nat} (h : TxM x T n) (hk : fI x 0 16 = nI k) (hb : k ≤ n) (hg : goodW b) (hW : W = lN (bW b))
    (p1 : fI x 0 17 = -1 → isWd T n (skip T n k) b → post 1 (setI x 0 16 (nI (skip T n k))))
    (p0 : ¬ (fI x 0 17 = -1 ∧ isWd T n (skip T n k) b) → post 0 (setI x 0 16 (nI (skip T n k)))) : wp_Mod_sees post W x := by
  have h2 := h.2.1
  have hs := @skip_le T n k hb
  unfold wp_Mod_sees j_Mod_sees_29
  refine s_blanks h hk (by omega) ?_
  by_cases c : fI x 0 17 = -1
  · refine bn_t c ?_
    show wp_Mod_wordOf _ (nI (skip T n k)) _
    refine s_wordOf (h.I (by decide)) hs ?_
    rw [hW]
    by_cases w : isWd T n (skip T n k) b
    · exact bn_t ((lg_cmp_eq _ _).mpr ((wv_word hg).mpr w)) (p1 c w)
    · exact bn_f (fun z => w ((wv_word hg).mp ((lg_cmp_eq _ _).mp z))) (p0 (fun z => w z.2))
  · exact bn_f c (p0 (fun z => c z.1))
theorem s_takesWord {post : Int32 → St → Prop} {W : Int64} {b : List Nat} {x : St} {T : Nat → Int32} {n k : Nat} (h : TxM x T n) (hk : fI x 0 16 = nI k) (hb : k ≤ n) (hg : goodW b) (hW : W = lN (bW b))
    (p1 : fI x 0 17 = -1 → isWd T n (skip T n k) b → post 1 (setI x 0 16 (nI (skip T n k + b.length))))
    (p0 : ¬ (fI x 0 17 = -1 ∧ isWd T n (skip T n k) b) → post 0 (setI x 0 16 (nI (skip T n k)))) : wp_Mod_takesWord post W x := by
  have h2 := h.2.1
  have hs := @skip_le T n k hb
  unfold wp_Mod_takesWord
  refine s_sees h hk hb hg hW (fun c w => bn_f (by decide) ?_) (fun q => bn_t rfl (p0 q))
  show wp_Mod_wordAt _ (nI (skip T n k)) _
  refine s_wordAt (h.I (by decide)) (by omega) ?_
  refine nm_r (e' := setI x 0 16 (nI (skip T n k + b.length))) ?_ (p1 c w)
  show setI (setI x 0 16 (nI (skip T n k))) 0 16 (nI (skip T n k) + nI (wln T n (skip T n k))) = _
  rw [setI_setI, nI_add, w.1]
