/-! the model: fields of a schema -/
/-- the rows' lengths never change -/
def LM (x : St) : Prop := ∀ o, fN x o = lenM.getD o 0
theorem rA_nI {x : St} {o k : Nat} (h : k < 2 ^ 31) : rA x o (nI k) = fA x o k := by
  show x.2.2.2.1 o (nI k).toNatClampNeg = _
  rw [nI_clamp h]
/-- the last number below N that is as asked, else -1 -/
def fnd (p : Nat → Bool) : Nat → Int32
  | 0 => -1
  | f + 1 => if p f = true then nI f else fnd p f
def mtM (x : St) (q : Nat) (g : Int32) (r fr n f : Nat) : Bool := decide (fA x 5 (128 * q + f) = g ∧ fA x 7 (128 * q + f) = nI n ∧ ∀ i, i < n → fA x 8 (16 * (128 * q + f) + i) = fA x r (fr + i))
theorem pl_eq {q f : Nat} : 128 * nI q + nI f = nI (128 * q + f) := by
  rw [show (128 : Int32) = nI 128 from rfl, nI_mul, nI_add]
theorem s16_eq {k i : Nat} : 16 * nI k + nI i = nI (16 * k + i) := by
  rw [show (16 : Int32) = nI 16 from rfl, nI_mul, nI_add]
theorem s_find {post : Int32 → St → Prop} {x : St} {q r fr n N : Nat} {g : Int32} (hL : LM x) (hq : q < 3) (hN : fA x 9 q = nI N) (hN2 : N ≤ 128) (hl : ∀ f, f < N → fA x 7 (128 * q + f) = nI n → n ≤ 16) (hr : fr + n ≤ fN x r) (hr2 : fN x r < 2 ^ 31)
    (p : post (fnd (mtM x q g r fr n) N) x) : wp_Mod_find post (nI q) g r (nI fr) (nI n) x := by
  have l9 : fN x 9 = 3 := hL 9
  have l5 : fN x 5 = 384 := hL 5
  have l7 : fN x 7 = 384 := hL 7
  have l8 : fN x 8 = 6144 := hL 8
  unfold wp_Mod_find
  refine lp_Mod_find_6 (fun a0 a1 a2 a3 a4 a5 a6 y => nI q = a0 ∧ g = a1 ∧ r = a2 ∧ nI fr = a3 ∧ nI n = a4 ∧ x = y ∧ ∃ f, f ≤ N ∧ nI f = a6 ∧ fnd (mtM x q g r fr n) f = a5) (fun _ _ _ _ _ _ a6 _ => N - a6.toNatClampNeg) ?_ _ _ _ _ _ _ _ _ ⟨rfl, rfl, rfl, rfl, rfl, rfl, 0, Nat.zero_le _, rfl, rfl⟩
  rintro R a0 a1 a2 a3 a4 a5 a6 y ⟨rfl, rfl, rfl, rfl, rfl, rfl, f, hf, rfl, rfl⟩ ih
  unfold j_Mod_find_6
  rw [l9, rA_nI (by omega), hN]
  refine ⟨vp_in_nI hq (by decide), ?_⟩
  by_cases c : f < N
  · refine br_f (by (first | omega | (simp (disch := omega) only [Int32.le_iff_toInt_le, Int32.lt_iff_toInt_lt, z_eq, z_in, nI_toInt, z_cl, z_m1, z_sg, z_255, Int32.reduceToInt] <;> omega) | (simp only [Int32.le_iff_toInt_le, Int32.lt_iff_toInt_lt, z_eq, z_in, z_add, z_sub, z_mul, z_neg, z_nI, z_cl, z_sg, z_255, z_lit, Int32.reduceToInt] <;> omega))) ?_
    have next : ∀ v, fnd (mtM x q g r fr n) (f + 1) = v → R (nI q) g r (nI fr) (nI n) v (nI f + 1) x := by
      intro v hv
      rw [nI_1]
      refine ih _ _ _ _ _ _ _ _ ⟨rfl, rfl, rfl, rfl, rfl, rfl, f + 1, by omega, rfl, hv⟩ ?_
      show N - (nI (f + 1)).toNatClampNeg < N - (nI f).toNatClampNeg
      rw [nI_clamp (by omega), nI_clamp (by omega)]
      omega
    have yes : ∀ l8 l9 l10, mtM x q g r fr n f = true → ¬ l9 = 0 → j_Mod_find_106 post R (nI q) g r (nI fr) (nI n) (fnd (mtM x q g r fr n) f) (nI f) l8 l9 l10 x := by
      intro l8 l9 l10 h1 h2
      unfold j_Mod_find_106 j_Mod_find_118
      exact br_f h2 (next _ (by show (if _ then _ else _) = _; rw [if_pos h1]))
    have no : ∀ l8 l10, mtM x q g r fr n f = false → j_Mod_find_106 post R (nI q) g r (nI fr) (nI n) (fnd (mtM x q g r fr n) f) (nI f) l8 0 l10 x := by
      intro l8 l10 h1
      unfold j_Mod_find_106 j_Mod_find_118
      exact br_t rfl (next _ (by show (if _ then _ else _) = _; rw [if_neg (by rw [h1]; decide)]))
    have out : mtM x q g r fr n f = false → j_Mod_find_52 post R (nI q) g r (nI fr) (nI n) (fnd (mtM x q g r fr n) f) (nI f) (nI (128 * q + f)) x := by
      intro h1
      unfold j_Mod_find_52 j_Mod_find_53
      refine ⟨1, ?_⟩
      show j_Mod_find_58 post R _ _ _ _ _ _ _ _ _ _ _ _
      unfold j_Mod_find_58
      exact br_t rfl (no _ _ h1)
    unfold wp_Mod_place
    dsimp only
    rw [pl_eq, l5, l7, rA_nI (by omega), rA_nI (by omega)]
    refine ⟨vp_in_nI (by omega) (by decide), ?_⟩
    by_cases c1 : fA x 5 (128 * q + f) = g
    · refine bn_t c1 ⟨vp_in_nI (by omega) (by decide), ?_⟩
      by_cases c2 : fA x 7 (128 * q + f) = nI n
      · refine bn_t c2 ?_
        have hn := hl f c c2
        unfold j_Mod_find_53
        refine lp_Mod_find_58 (fun a0 b1 b2 a3 a4 a5 a6 a7 a8 a9 z => nI q = a0 ∧ g = b1 ∧ r = b2 ∧ nI fr = a3 ∧ nI n = a4 ∧ fnd (mtM x q g r fr n) f = a5 ∧ nI f = a6 ∧ nI (128 * q + f) = a7 ∧ x = z ∧ ∃ i, i ≤ n ∧ nI i = a9 ∧ (1 = a8 ∧ (∀ j, j < i → fA x 8 (16 * (128 * q + f) + j) = fA x r (fr + j)) ∨ 0 = a8 ∧ mtM x q g r fr n f = false)) (fun _ _ _ _ _ _ _ _ _ a9 _ => n - a9.toNatClampNeg) ?_ _ _ _ _ _ _ _ _ _ _ _ ⟨rfl, rfl, rfl, rfl, rfl, rfl, rfl, rfl, rfl, 0, Nat.zero_le _, rfl, Or.inl ⟨rfl, lt_0⟩⟩
        rintro R2 a0 b1 b2 a3 a4 a5 a6 a7 a8 a9 z ⟨rfl, rfl, rfl, rfl, rfl, rfl, rfl, rfl, rfl, i, hi, rfl, hc⟩ ih2
        unfold j_Mod_find_58
        rcases hc with ⟨rfl, hc⟩ | ⟨rfl, hc⟩
        · refine br_f (by decide) ?_
          by_cases d : i < n
          · have go : ∀ v, (1 = v ∧ (∀ j, j < i + 1 → fA x 8 (16 * (128 * q + f) + j) = fA x r (fr + j)) ∨ 0 = v ∧ mtM x q g r fr n f = false) → R2 (nI q) g r (nI fr) (nI n) (fnd (mtM x q g r fr n) f) (nI f) (nI (128 * q + f)) v (nI i + 1) x := by
              intro v hv
              rw [nI_1]
              refine ih2 _ _ _ _ _ _ _ _ _ _ _ ⟨rfl, rfl, rfl, rfl, rfl, rfl, rfl, rfl, rfl, i + 1, by omega, rfl, hv⟩ ?_
              show n - (nI (i + 1)).toNatClampNeg < n - (nI i).toNatClampNeg
              rw [nI_clamp (by omega), nI_clamp (by omega)]
              omega
            rw [s16_eq, nI_add, l8, rA_nI (by omega), rA_nI (by omega)]
            refine br_f (by (first | omega | (simp (disch := omega) only [Int32.le_iff_toInt_le, Int32.lt_iff_toInt_lt, z_eq, z_in, nI_toInt, z_cl, z_m1, z_sg, z_255, Int32.reduceToInt] <;> omega) | (simp only [Int32.le_iff_toInt_le, Int32.lt_iff_toInt_lt, z_eq, z_in, z_add, z_sub, z_mul, z_neg, z_nI, z_cl, z_sg, z_255, z_lit, Int32.reduceToInt] <;> omega))) ⟨vp_in_nI (by omega) (by decide), vp_in_nI (by omega) hr2, ?_⟩
            unfold j_Mod_find_98
            by_cases e : fA x 8 (16 * (128 * q + f) + i) = fA x r (fr + i)
            · exact bn_t e (go 1 (Or.inl ⟨rfl, lt_s hc e⟩))
            · refine bn_f e (go 0 (Or.inr ⟨rfl, ?_⟩))
              exact decide_eq_false (fun w => e (w.2.2 i d))
          · refine br_t (by (first | omega | (simp (disch := omega) only [Int32.le_iff_toInt_le, Int32.lt_iff_toInt_lt, z_eq, z_in, nI_toInt, z_cl, z_m1, z_sg, z_255, Int32.reduceToInt] <;> omega) | (simp only [Int32.le_iff_toInt_le, Int32.lt_iff_toInt_lt, z_eq, z_in, z_add, z_sub, z_mul, z_neg, z_nI, z_cl, z_sg, z_255, z_lit, Int32.reduceToInt] <;> omega))) (yes _ _ _ ?_ (by decide))
            exact decide_eq_true ⟨c1, c2, fun j hj => hc j (by omega)⟩
        · exact br_t rfl (no _ _ hc)
      · exact bn_f c2 (out (decide_eq_false (fun w => c2 w.2.1)))
    · exact bn_f c1 (out (decide_eq_false (fun w => c1 w.1)))
  · have e : f = N := by omega
    subst e
    exact br_t (by (first | omega | (simp (disch := omega) only [Int32.le_iff_toInt_le, Int32.lt_iff_toInt_lt, z_eq, z_in, nI_toInt, z_cl, z_m1, z_sg, z_255, Int32.reduceToInt] <;> omega) | (simp only [Int32.le_iff_toInt_le, Int32.lt_iff_toInt_lt, z_eq, z_in, z_add, z_sub, z_mul, z_neg, z_nI, z_cl, z_sg, z_255, z_lit, Int32.reduceToInt] <;> omega))) p
