/-! the model reads RUNS -/
theorem nI_r8 {m : Nat} (h : m < 2 ^ 31) : nI m - nI m / 8 * 8 = nI (m % 8) := by
  rw [show (8 : Int32) = nI 8 from rfl, nI_dv h (by decide) (by decide), nI_mul, nI_sub (by omega)]
  congr 1
  omega
theorem by_a1 : ∀ m, m < 256 → nI m &&& 1 = nI (m % 2) := by decide +kernel
theorem by_bit {t j : Nat} (ht : t < 256) (hj : j < 8) : (nI t >>> (nI j &&& 31)) &&& 1 = nI (t / 2 ^ j % 2) := by
  rw [sh_w (by omega) (by omega)]
  exact by_a1 _ (Nat.lt_of_le_of_lt (Nat.div_le_self _ _) ht)
theorem b1_shl : ∀ i, i < 32 → ∀ b, b < 2 → nI b <<< (nI i &&& 31) = nI (b * 2 ^ i) := by decide +kernel
section
variable {x : St} {T : Nat → Nat} {n st p : Nat}
theorem s_bitsAt {post : Int32 → St → Prop} {q m w : Nat} (hF : FiM x T n) (hw : w ≤ 32) (hm : m < 2 ^ 28) (hq : ∀ i, i < w → q + (m + i) / 8 < n) (hq2 : q ≤ 40000) (k : post (nI (bsN T q m w)) x) : wp_Mod_bitsAt post (nI q) (nI m) (nI w) x := by
  have hn := hF.2.1
  have e41 : fN x 41 = 40000 := hF.1 41
  unfold wp_Mod_bitsAt
  refine lp_Mod_bitsAt_6 (fun a0 a1 a2 a3 a4 y => nI q = a0 ∧ nI m = a1 ∧ nI w = a2 ∧ x = y ∧ ∃ i, nI i = a4 ∧ i ≤ w ∧ a3 = nI (bsN T q m i)) (fun _ _ _ _ a4 _ => w - a4.toNatClampNeg) ?_ _ _ _ _ _ _ ⟨rfl, rfl, rfl, rfl, 0, rfl, Nat.zero_le _, rfl⟩
  rintro Q a0 a1 a2 a3 a4 y ⟨rfl, rfl, rfl, rfl, i, rfl, i1, rfl⟩ ih
  unfold j_Mod_bitsAt_6
  by_cases c : i < w
  · have hqi := hq i c
    have hT := hF.2.2.1 (q + (m + i) / 8)
    refine br_f (by (first | omega | (simp (disch := omega) only [Int32.le_iff_toInt_le, Int32.lt_iff_toInt_lt, z_eq, z_in, nI_toInt, z_cl, z_m1, z_sg, z_255, Int32.reduceToInt] <;> omega) | (simp only [Int32.le_iff_toInt_le, Int32.lt_iff_toInt_lt, z_eq, z_in, z_add, z_sub, z_mul, z_neg, z_nI, z_cl, z_sg, z_255, z_lit, Int32.reduceToInt] <;> omega))) ?_
    rw [nI_add, nI_r8 (by omega), show nI (m + i) / 8 = nI ((m + i) / 8) from by rw [show (8 : Int32) = nI 8 from rfl, nI_dv (by omega) (by decide) (by decide)], nI_add]
    refine ⟨vp_in_nI (by omega) (by omega), ?_⟩
    rw [rA_nI (by omega), hF.2.2.2 _ hqi, by_bit hT (by omega), b1_shl i (by omega) _ (by omega)]
    have lt := bsN_lt (T := T) (p := q) (m := m) i
    have le : 2 ^ (i + 1) ≤ 2 ^ 32 := Nat.pow_le_pow_right (by decide) (by omega)
    have lt2 := bsN_lt (T := T) (p := q) (m := m) (i + 1)
    have eb : bsN T q m (i + 1) = bsN T q m i + T (q + (m + i) / 8) / 2 ^ ((m + i) % 8) % 2 * 2 ^ i := rfl
    refine nm_r (e' := nI (bsN T q m (i + 1))) (by rw [eb]; exact nI_orA lt (by rw [← eb]; omega)) ?_
    rw [nI_1]
    exact ih _ _ _ _ _ _ ⟨rfl, rfl, rfl, rfl, i + 1, rfl, c, rfl⟩ (by rw [nI_clamp (by omega), nI_clamp (by omega)]; omega)
  · have e : i = w := by omega
    subst e
    exact br_t (by (first | omega | (simp (disch := omega) only [Int32.le_iff_toInt_le, Int32.lt_iff_toInt_lt, z_eq, z_in, nI_toInt, z_cl, z_m1, z_sg, z_255, Int32.reduceToInt] <;> omega) | (simp only [Int32.le_iff_toInt_le, Int32.lt_iff_toInt_lt, z_eq, z_in, z_add, z_sub, z_mul, z_neg, z_nI, z_cl, z_sg, z_255, z_lit, Int32.reduceToInt] <;> omega))) k
theorem bs_add {q m a : Nat} : ∀ d, bsN T q m (a + d) = bsN T q m a + 2 ^ a * bsN T q (m + a) d := by
  intro d
  induction d with
  | zero => show bsN T q m a = _ + 2 ^ a * 0; omega
  | succ d ih =>
    show bsN T q m (a + d) + btN T q (m + (a + d)) * 2 ^ (a + d) = _ + 2 ^ a * (bsN T q (m + a) d + btN T q (m + a + d) * 2 ^ d)
    rw [ih, Nat.mul_add, show m + (a + d) = m + a + d by omega, Nat.pow_add]
    have : btN T q (m + a + d) * (2 ^ a * 2 ^ d) = 2 ^ a * (btN T q (m + a + d) * 2 ^ d) := by rw [Nat.mul_left_comm]
    omega
theorem bs_byte {q b : Nat} (hT : ∀ i, T i < 256) : bsN T q (8 * b) 8 = T (q + b) := by
  have h := hT (q + b)
  have e : ∀ i, i < 8 → btN T q (8 * b + i) = T (q + b) / 2 ^ i % 2 := fun i hi => by
    unfold btN
    rw [show (8 * b + i) / 8 = b by omega, show (8 * b + i) % 8 = i by omega]
  show bsN T q (8 * b) 0 + btN T q (8 * b + 0) * 2 ^ 0 + btN T q (8 * b + 1) * 2 ^ 1 + btN T q (8 * b + 2) * 2 ^ 2 + btN T q (8 * b + 3) * 2 ^ 3 + btN T q (8 * b + 4) * 2 ^ 4 + btN T q (8 * b + 5) * 2 ^ 5 + btN T q (8 * b + 6) * 2 ^ 6 + btN T q (8 * b + 7) * 2 ^ 7 = _
  rw [e 0 (by decide), e 1 (by decide), e 2 (by decide), e 3 (by decide), e 4 (by decide), e 5 (by decide), e 6 (by decide), e 7 (by decide)]
  rw [show bsN T q (8 * b) 0 = 0 from rfl]
  generalize T (q + b) = t at *
  simp only [Nat.reducePow]
  omega
theorem bs_fx {q : Nat} (hT : ∀ i, T i < 256) : ∀ b, fxV T q b = bsN T q 0 (8 * b) := by
  intro b
  induction b with
  | zero => rfl
  | succ b ih =>
    show fxV T q b + T (q + b) * 256 ^ b = _
    rw [ih, show 8 * (b + 1) = 8 * b + 8 by omega, bs_add, Nat.zero_add, bs_byte hT, Nat.mul_comm (2 ^ (8 * b)), Nat.pow_mul]
theorem bs_zero {q m : Nat} : ∀ d, bsN T q m d = 0 ↔ ∀ i, i < d → btN T q (m + i) = 0 := by
  intro d
  induction d with
  | zero => exact ⟨fun _ i h => absurd h (Nat.not_lt_zero _), fun _ => rfl⟩
  | succ d ih =>
    show bsN T q m d + btN T q (m + d) * 2 ^ d = 0 ↔ _
    have pp : 0 < 2 ^ d := Nat.pow_pos (by decide)
    constructor
    · intro h i hi
      have h1 : bsN T q m d = 0 := by omega
      have h2 : btN T q (m + d) = 0 := by
        rcases Nat.eq_zero_or_pos (btN T q (m + d)) with z | z
        · exact z
        · have := Nat.mul_le_mul_right (2 ^ d) z
          omega
      by_cases c : i < d
      · exact ih.mp h1 i c
      · have e : i = d := by omega
        rw [e]; exact h2
    · intro h
      rw [ih.mpr (fun i hi => h i (by omega)), h d (by omega)]
      omega
abbrev FrRw (r : Nat) (x y : St) : Prop := Fg (fun o k => o = 0 ∧ (k = 67 ∨ k = 69)) no2 no2 (fun a => a = r) no1 x y
theorem FrRd.rw {r : Nat} {y : St} (f : FrRd x y) : FrRw r x y := f.mono (fun _ _ z => z) (fun _ _ z => z) (fun _ _ z => z) (fun _ z => z.elim) (fun _ z => z)
theorem FrRw.fi {r : Nat} {y : St} (hr : r ≠ 41) (f : FrRw r x y) (h : FiM x T n) : FiM y T n := h.cg (f.2.2.2.1 41 (fun z => hr z.symm)) (fun o => by show y.2.2.2.2.2 o = _; rw [f.2.2.2.2.2])
/-- a run of ONE -/
theorem s_readOne {post : Int32 → St → Prop} {r k m w many : Nat} (hF : FiM x T n) (h0 : fI x 0 69 = 0) (hp : fI x 0 67 = nI p) (hps : p ≤ st) (hst : st ≤ n) (hr : r ≠ 41) (hw : w ≤ 32) (hk : k ≤ m) (hm : m ≤ fN x r) (hm2 : fN x r ≤ 2 ^ 20) (hmany : many < 2 ^ 63)
    (pe : ∀ e y, (m - k < many ∧ e = 4 ∨ ¬ m - k < many ∧ (st < p + (w + 7) / 8 ∧ e = 1 ∨ ¬ st < p + (w + 7) / 8 ∧ 2 ^ w ≤ fxV T p ((w + 7) / 8) ∧ e = 5)) → FrRw r x y → Flt y e → ∀ v, k ≤ v → v < 2 ^ 21 → post (nI v) y)
    (pk : ¬ m - k < many → ¬ st < p + (w + 7) / 8 → ¬ 2 ^ w ≤ fxV T p ((w + 7) / 8) → ∀ y, FrRw r x y → fI y 0 67 = nI (p + (w + 7) / 8) → fI y 0 69 = 0 → (∀ i, fA y r i = if k ≤ i ∧ i < k + many then nI (fxV T p ((w + 7) / 8)) else fA x r i) → post (nI (k + many)) y) : wp_Mod_readOne post r (nI k) (nI m) (nI w) (nI st) (lN many) x := by
  have hn := hF.2.1
  have e41 : fN x 41 = 40000 := hF.1 41
  have hT := hF.2.2.1
  unfold wp_Mod_readOne
  refine nm_r (e' := nI ((w + 7) / 8)) (by rw [show (7 : Int32) = nI 7 from rfl, nI_add, show (8 : Int32) = nI 8 from rfl, nI_dv (by omega) (by decide) (by decide)]) ?_
  rw [hp, nI_sub hk, nI_sub hps, show (nI (m - k)).toInt64 = lN (m - k) from nI_l (by omega), lg_cmp_le, lN_le2 hmany (by omega)]
  have flt : ∀ e, 0 < e → e < 100 → ∀ (p' : (m - k < many ∧ e = 4 ∨ ¬ m - k < many ∧ (st < p + (w + 7) / 8 ∧ e = 1 ∨ ¬ st < p + (w + 7) / 8 ∧ 2 ^ w ≤ fxV T p ((w + 7) / 8) ∧ e = 5))), j_Mod_readOne_45 post r (nI k) (nI m) (nI w) (nI st) (lN many) (nI ((w + 7) / 8)) (setI x 0 69 (nI e)) := fun e e1 e2 p' => by
    have fl : Flt (setI x 0 69 (nI e)) e := ⟨gI_at, e1, e2⟩
    unfold j_Mod_readOne_45
    exact ⟨fun z => absurd z fl.ne, fun _ => pe e _ p' (Fg.i ⟨rfl, by decide⟩) fl k (Nat.le_refl _) (by omega)⟩
  by_cases c1 : many ≤ m - k
  · refine br_t c1 ?_
    by_cases c2 : st < p + (w + 7) / 8
    · refine br_f (by (first | omega | (simp (disch := omega) only [Int32.le_iff_toInt_le, Int32.lt_iff_toInt_lt, z_eq, z_in, nI_toInt, z_cl, z_m1, z_sg, z_255, Int32.reduceToInt] <;> omega) | (simp only [Int32.le_iff_toInt_le, Int32.lt_iff_toInt_lt, z_eq, z_in, z_add, z_sub, z_mul, z_neg, z_nI, z_cl, z_sg, z_255, z_lit, Int32.reduceToInt] <;> omega))) (nm_e (flt 1 (by decide) (by decide) (Or.inr ⟨by omega, Or.inl ⟨c2, rfl⟩⟩)))
    · refine br_t (by (first | omega | (simp (disch := omega) only [Int32.le_iff_toInt_le, Int32.lt_iff_toInt_lt, z_eq, z_in, nI_toInt, z_cl, z_m1, z_sg, z_255, Int32.reduceToInt] <;> omega) | (simp only [Int32.le_iff_toInt_le, Int32.lt_iff_toInt_lt, z_eq, z_in, z_add, z_sub, z_mul, z_neg, z_nI, z_cl, z_sg, z_255, z_lit, Int32.reduceToInt] <;> omega))) ?_
      unfold j_Mod_readOne_45
      refine ⟨fun _ => ?_, fun z => absurd h0 z⟩
      rw [hp, show (0 : Int32) = nI 0 from rfl]
      refine s_bitsAt hF hw (by decide) (fun i hi => by omega) (by omega) ?_
      -- the bits above w
      have split : fxV T p ((w + 7) / 8) = bsN T p 0 w + 2 ^ w * bsN T p w (8 * ((w + 7) / 8) - w) := by
        rw [bs_fx hT]
        have := bs_add (T := T) (q := p) (m := 0) (a := w) (8 * ((w + 7) / 8) - w)
        rw [show w + (8 * ((w + 7) / 8) - w) = 8 * ((w + 7) / 8) by omega, Nat.zero_add] at this
        exact this
      have lw := bsN_lt (T := T) (p := p) (m := 0) w
      have iff0 : 2 ^ w ≤ fxV T p ((w + 7) / 8) ↔ bsN T p w (8 * ((w + 7) / 8) - w) ≠ 0 := by
        rw [split]
        constructor
        · intro h z
          rw [z] at h
          omega
        · intro h
          have := Nat.mul_le_mul_left (2 ^ w) (show 1 ≤ bsN T p w (8 * ((w + 7) / 8) - w) by omega)
          omega
      have fill : ∀ (y : St), FrRd x y → (fI y 0 69 = 0 ∧ ¬ 2 ^ w ≤ fxV T p ((w + 7) / 8) ∨ Flt y 5 ∧ 2 ^ w ≤ fxV T p ((w + 7) / 8)) → fI y 0 67 = nI (p + (w + 7) / 8) → ∃ nn : Nat, wl_Mod_readOne_133 post nn r (nI k) (nI m) (nI w) (nI st) (lN many) (nI ((w + 7) / 8)) (nI (bsN T p 0 w)) 0 y := fun y y1 y2 y3 => by
        have nr : fN y r = fN x r := by show y.2.2.2.2.2 r = _; rw [y1.2.2.2.2.2]
        refine lp_Mod_readOne_133 (fun a0 a1 a2 a3 a4 a5 a6 a7 a8 z => r = a0 ∧ nI k = a1 ∧ lN many = a5 ∧ nI (bsN T p 0 w) = a7 ∧ ∃ i, nI i = a8 ∧ i ≤ many ∧ FrRw r x z ∧ fI z 0 67 = fI y 0 67 ∧ fI z 0 69 = fI y 0 69 ∧ ∀ j, fA z r j = if k ≤ j ∧ j < k + i then nI (bsN T p 0 w) else fA x r j) (fun _ _ _ _ _ _ _ _ a8 _ => many - a8.toNatClampNeg) ?_ _ _ _ _ _ _ _ _ _ _ ⟨rfl, rfl, rfl, rfl, 0, rfl, Nat.zero_le _, y1.rw, rfl, rfl, fun j => by rw [if_neg (by omega)]; show y.2.2.2.1 r j = _; rw [y1.2.2.2.1 r id]⟩
        rintro Q a0 a1 a2 a3 a4 a5 a6 a7 a8 z ⟨rfl, rfl, rfl, rfl, i, rfl, i1, z1, z2, z3, z4⟩ ih
        have nz : fN z r = fN x r := by show z.2.2.2.2.2 r = _; rw [z1.2.2.2.2.2]
        unfold j_Mod_readOne_133
        rw [show (nI i).toInt64 = lN i from nI_l (by omega), lg_cmp_ge, lN_le2 (by omega) (by omega)]
        by_cases ci : i < many
        · refine br_f (by omega) ?_
          rw [nI_add]
          refine ⟨vp_in_nI (by omega) (by omega), nm_e ?_⟩
          rw [nI_1]
          refine ih _ _ _ _ _ _ _ _ _ _ ⟨rfl, rfl, rfl, rfl, i + 1, rfl, ci, Fg.trans z1 (Fg.a rfl), z2, z3, fun j => ?_⟩ (by rw [nI_clamp (by omega), nI_clamp (by omega)]; omega)
          rw [gA_at, nI_clamp (by omega)]
          by_cases e : j = k + i
          · rw [e, upd_at, if_pos (by omega)]
          · rw [upd_ne (by omega), z4 j]
            by_cases e2 : k ≤ j ∧ j < k + i
            · rw [if_pos e2, if_pos (by omega)]
            · rw [if_neg e2, if_neg (by omega)]
        · have e : i = many := by omega
          subst e
          refine br_t (Nat.le_refl _) ?_
          rw [lN_i, nI_add]
          rcases y2 with ⟨q1, q2⟩ | ⟨q1, q2⟩
          · have ez : bsN T p w (8 * ((w + 7) / 8) - w) = 0 := Classical.byContradiction (fun h => q2 (iff0.mpr h))
            have ev : fxV T p ((w + 7) / 8) = bsN T p 0 w := by rw [split, ez]; omega
            exact pk (by omega) c2 q2 z z1 (z2.trans y3) (z3.trans q1) (fun j => by rw [z4 j, ev])
          · exact pe 5 z (Or.inr ⟨by omega, Or.inr ⟨c2, q2, rfl⟩⟩) z1 ⟨z3.trans q1.1, q1.2⟩ _ (Nat.le_add_right _ _) (by omega)
      refine lp_Mod_readOne_71 (fun a0 a1 a2 a3 a4 a5 a6 a7 a8 y => r = a0 ∧ nI k = a1 ∧ nI m = a2 ∧ nI w = a3 ∧ nI st = a4 ∧ lN many = a5 ∧ nI ((w + 7) / 8) = a6 ∧ nI (bsN T p 0 w) = a7 ∧ ∃ i, nI i = a8 ∧ w ≤ i ∧ i ≤ 8 * ((w + 7) / 8) ∧ FrRd x y ∧ fI y 0 67 = nI p ∧ (fI y 0 69 = 0 ∧ bsN T p w (i - w) = 0 ∨ Flt y 5 ∧ bsN T p w (i - w) ≠ 0)) (fun _ _ _ _ _ _ _ _ a8 _ => 8 * ((w + 7) / 8) - a8.toNatClampNeg) ?_ _ _ _ _ _ _ _ _ _ _ ⟨rfl, rfl, rfl, rfl, rfl, rfl, rfl, rfl, w, rfl, Nat.le_refl _, by omega, Fg.refl x, hp, Or.inl ⟨h0, by rw [Nat.sub_self]; rfl⟩⟩
      rintro Q a0 a1 a2 a3 a4 a5 a6 a7 a8 y ⟨rfl, rfl, rfl, rfl, rfl, rfl, rfl, rfl, i, rfl, i1, i2, y1, y2, y3⟩ ih
      have Fy := y1.fi hF
      have e8 : (8 : Int32) * nI ((w + 7) / 8) = nI (8 * ((w + 7) / 8)) := by rw [show (8 : Int32) = nI 8 from rfl, nI_mul]
      unfold j_Mod_readOne_71
      rw [e8, y2, nI_add]
      by_cases ci : i < 8 * ((w + 7) / 8)
      · refine br_f (by (first | omega | (simp (disch := omega) only [Int32.le_iff_toInt_le, Int32.lt_iff_toInt_lt, z_eq, z_in, nI_toInt, z_cl, z_m1, z_sg, z_255, Int32.reduceToInt] <;> omega) | (simp only [Int32.le_iff_toInt_le, Int32.lt_iff_toInt_lt, z_eq, z_in, z_add, z_sub, z_mul, z_neg, z_nI, z_cl, z_sg, z_255, z_lit, Int32.reduceToInt] <;> omega))) ?_
        have hTi := hT (p + i / 8)
        rw [nI_r8 (by omega), show nI i / 8 = nI (i / 8) from by rw [show (8 : Int32) = nI 8 from rfl, nI_dv (by omega) (by decide) (by decide)], nI_add]
        have z41 : fN y 41 = 40000 := Fy.1 41
        refine ⟨vp_in_nI (by omega) (by omega), ?_⟩
        rw [rA_nI (by omega), Fy.2.2.2 _ (by omega), by_bit hTi (by omega)]
        have eb : bsN T p w (i + 1 - w) = bsN T p w (i - w) + btN T p i * 2 ^ (i - w) := by
          rw [show i + 1 - w = (i - w) + 1 by omega]
          show _ + btN T p (w + (i - w)) * _ = _
          rw [show w + (i - w) = i by omega]
        have e2 : T (p + i / 8) / 2 ^ (i % 8) % 2 = btN T p i := rfl
        rw [e2]
        have nx : ∀ z, FrRd x z → fI z 0 67 = nI p → (fI z 0 69 = 0 ∧ bsN T p w (i + 1 - w) = 0 ∨ Flt z 5 ∧ bsN T p w (i + 1 - w) ≠ 0) → j_Mod_readOne_113 post Q r (nI k) (nI m) (nI w) (nI st) (lN many) (nI ((w + 7) / 8)) (nI (bsN T p 0 w)) (nI i) z := fun z z1 z2 z3 => by
          unfold j_Mod_readOne_113
          rw [nI_1]
          exact ih _ _ _ _ _ _ _ _ _ _ ⟨rfl, rfl, rfl, rfl, rfl, rfl, rfl, rfl, i + 1, rfl, by omega, by omega, z1, z2, z3⟩ (by rw [nI_clamp (by omega), nI_clamp (by omega)]; omega)
        have bl := btN_le (T := T) p i
        have pp : 0 < 2 ^ (i - w) := Nat.pow_pos (by decide)
        by_cases cb : btN T p i = 1
        · refine ⟨fun z => absurd (by rw [cb]; rfl) z, fun _ => nm_e (nx _ (Fg.trans y1 (Fg.i ⟨rfl, by decide⟩)) ((gI_ne (by decide)).trans y2) (Or.inr ⟨⟨gI_at, by decide, by decide⟩, ?_⟩))⟩
          rw [eb, cb]
          omega
        · have cb0 : btN T p i = 0 := by omega
          refine ⟨fun _ => nx y y1 y2 ?_, fun z => absurd (nI_inj (b := 1) (by omega) (by decide) z) cb⟩
          rw [eb, cb0, Nat.zero_mul, Nat.add_zero]
          exact y3
      · have e : i = 8 * ((w + 7) / 8) := by omega
        subst e
        refine br_t (by (first | omega | (simp (disch := omega) only [Int32.le_iff_toInt_le, Int32.lt_iff_toInt_lt, z_eq, z_in, nI_toInt, z_cl, z_m1, z_sg, z_255, Int32.reduceToInt] <;> omega) | (simp only [Int32.le_iff_toInt_le, Int32.lt_iff_toInt_lt, z_eq, z_in, z_add, z_sub, z_mul, z_neg, z_nI, z_cl, z_sg, z_255, z_lit, Int32.reduceToInt] <;> omega))) (nm_e (fill _ (Fg.trans y1 (Fg.i ⟨rfl, by decide⟩)) ?_ gI_at))
        rcases y3 with ⟨q1, q2⟩ | ⟨q1, q2⟩
        · exact Or.inl ⟨(gI_ne (by decide)).trans q1, fun h => iff0.mp h q2⟩
        · exact Or.inr ⟨⟨(gI_ne (by decide)).trans q1.1, q1.2⟩, iff0.mpr q2⟩
  · exact br_f c1 (nm_e (flt 4 (by decide) (by decide) (Or.inl ⟨by omega, rfl⟩)))
end
