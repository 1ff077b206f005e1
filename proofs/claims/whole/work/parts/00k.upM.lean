/-! sums over a field and the groups around it -/
def upF (w : Nat → Nat) (P : Nat → Int32) : Nat → Int32 → Nat
  | 0, _ => 0
  | k + 1, g => if g = -1 then 0 else w g.toNatClampNeg + upF w P k (P g.toNatClampNeg)
def upS (w : Nat → Nat) (P : Nat → Int32) (g : Int32) : Nat := upF w P 128 g
/-- a field's group comes before it -/
def wfP (P : Nat → Int32) (N : Nat) : Prop := N ≤ 128 ∧ ∀ f, f < N → P f = -1 ∨ ∃ g, g < f ∧ P f = nI g
theorem nI_nm1 {f : Nat} (h : f < 2 ^ 31) : ¬ nI f = -1 := by
  intro z
  (first | omega | (simp (disch := omega) only [Int32.le_iff_toInt_le, Int32.lt_iff_toInt_lt, z_eq, z_in, nI_toInt, z_cl, z_m1, z_sg, z_255, Int32.reduceToInt] at * <;> omega) | (simp only [Int32.le_iff_toInt_le, Int32.lt_iff_toInt_lt, z_eq, z_in, z_add, z_sub, z_mul, z_neg, z_nI, z_cl, z_sg, z_255, z_lit, Int32.reduceToInt] at * <;> omega))
theorem upF_neg {w : Nat → Nat} {P : Nat → Int32} {k : Nat} : upF w P k (-1) = 0 := by
  cases k with
  | zero => rfl
  | succ k => show (if (-1 : Int32) = -1 then 0 else _) = 0; rw [if_pos rfl]
theorem upF_s {w : Nat → Nat} {P : Nat → Int32} {k f : Nat} (h : f < 2 ^ 31) : upF w P (k + 1) (nI f) = w f + upF w P k (P f) := by
  show (if nI f = -1 then 0 else w (nI f).toNatClampNeg + upF w P k (P (nI f).toNatClampNeg)) = _
  rw [if_neg (nI_nm1 h), nI_clamp h]
theorem upF_fuel {w : Nat → Nat} {P : Nat → Int32} {N : Nat} (hP : wfP P N) : ∀ k j f, f < N → f < k → f < j → upF w P k (nI f) = upF w P j (nI f) := by
  have h1 := hP.1
  intro k
  induction k with
  | zero => intro j f _ h; omega
  | succ k ih =>
    intro j f hf hk hj
    cases j with
    | zero => omega
    | succ j =>
      rw [upF_s (by omega), upF_s (by omega)]
      rcases hP.2 f hf with e | ⟨g, hg, e⟩
      · rw [e, upF_neg, upF_neg]
      · rw [e, ih j g (by omega) (by omega) (by omega)]
theorem upS_neg {w : Nat → Nat} {P : Nat → Int32} : upS w P (-1) = 0 := upF_neg
theorem upS_at {w : Nat → Nat} {P : Nat → Int32} {N f : Nat} (hP : wfP P N) (hf : f < N) : upS w P (nI f) = w f + upS w P (P f) := by
  have h1 := hP.1
  unfold upS
  rw [show (128 : Nat) = 127 + 1 from rfl, upF_s (by omega)]
  rcases hP.2 f hf with e | ⟨g, hg, e⟩
  · rw [e, upF_neg, upF_neg]
  · rw [e, upF_fuel hP 127 128 g (by omega) (by omega) (by omega)]
/-- -1 or a field's number -/
def gOk (N : Nat) (g : Int32) : Prop := g = -1 ∨ ∃ f, f < N ∧ g = nI f
theorem wfP.ok {P : Nat → Int32} {N f : Nat} (hP : wfP P N) (hf : f < N) : gOk N (P f) := by
  rcases hP.2 f hf with e | ⟨g, hg, e⟩
  · exact Or.inl e
  · exact Or.inr ⟨g, by omega, e⟩
/-- how far a group's number is from -1 -/
def gM (g : Int32) : Nat := (g.toInt + 1).toNat
theorem gM_lt {P : Nat → Int32} {N f : Nat} (hP : wfP P N) (hf : f < N) : gM (P f) < gM (nI f) := by
  have h1 := hP.1
  unfold gM
  rcases hP.2 f hf with e | ⟨g, hg, e⟩ <;> rw [e] <;> (first | omega | (simp (disch := omega) only [Int32.le_iff_toInt_le, Int32.lt_iff_toInt_lt, z_eq, z_in, nI_toInt, z_cl, z_m1, z_sg, z_255, Int32.reduceToInt] <;> omega) | (simp only [Int32.le_iff_toInt_le, Int32.lt_iff_toInt_lt, z_eq, z_in, z_add, z_sub, z_mul, z_neg, z_nI, z_cl, z_sg, z_255, z_lit, Int32.reduceToInt] <;> omega))
/-- the parents of slot q, the kinds of slot q -/
abbrev mP (x : St) (q : Nat) : Nat → Int32 := fun f => fA x 5 (128 * q + f)
abbrev mK (x : St) (q : Nat) : Nat → Int32 := fun f => fA x 3 (128 * q + f)
def wOne : Nat → Nat := fun _ => 1
def wRep (K : Nat → Int32) : Nat → Nat := fun f => if K f = 2 then 1 else 0
def wDef (K : Nat → Int32) : Nat → Nat := fun f => if K f = 0 then 0 else 1
theorem s_deep {post : Int32 → St → Prop} {x : St} {q N : Nat} {g : Int32} (hL : LM x) (hq : q < 3) (hP : wfP (mP x q) N) (hg : gOk N g) (p : post (nI (upS wOne (mP x q) g)) x) : wp_Mod_deep post (nI q) g x := by
  have h1 := hP.1
  have l5 : fN x 5 = 384 := hL 5
  unfold wp_Mod_deep
  refine lp_Mod_deep_5 (fun a0 a1 a2 a3 y => nI q = a0 ∧ x = y ∧ gOk N a3 ∧ ∃ c, nI c = a2 ∧ c + upS wOne (mP x q) a3 = upS wOne (mP x q) g) (fun _ _ _ a3 _ => gM a3) ?_ _ _ _ _ _ ⟨rfl, rfl, hg, 0, rfl, by omega⟩
  rintro R a0 a1 a2 a3 y ⟨rfl, rfl, hg2, c, rfl, hc⟩ ih
  unfold j_Mod_deep_5
  rcases hg2 with rfl | ⟨f, hf, rfl⟩
  · rw [upS_neg] at hc
    refine br_t rfl ?_
    rw [show c = upS wOne (mP x q) g by omega]
    exact p
  · refine br_f (nI_nm1 (by omega)) ?_
    unfold wp_Mod_place
    dsimp only
    rw [pl_eq, l5, rA_nI (by omega), nI_1]
    refine ⟨vp_in_nI (by omega) (by decide), nm_e ?_⟩
    rw [upS_at hP hf] at hc
    have hc : c + (1 + upS wOne (mP x q) (fA x 5 (128 * q + f))) = upS wOne (mP x q) g := hc
    exact ih _ _ _ _ _ ⟨rfl, rfl, hP.ok hf, c + 1, rfl, by omega⟩ (gM_lt hP hf)
theorem s_level {post : Int32 → St → Prop} {x : St} {q N : Nat} {g b : Int32} (hL : LM x) (hq : q < 3) (hP : wfP (mP x q) N) (hg : gOk N g)
    (p : post (nI (upS (if b = 0 then wDef (mK x q) else wRep (mK x q)) (mP x q) g)) x) : wp_Mod_level post (nI q) g b x := by
  have h1 := hP.1
  have l5 : fN x 5 = 384 := hL 5
  have l3 : fN x 3 = 384 := hL 3
  generalize hw : (if b = 0 then wDef (mK x q) else wRep (mK x q)) = w at p
  unfold wp_Mod_level
  refine lp_Mod_level_6 (fun a0 a1 a2 a3 a4 y => nI q = a0 ∧ b = a2 ∧ x = y ∧ gOk N a4 ∧ ∃ c, nI c = a3 ∧ c + upS w (mP x q) a4 = upS w (mP x q) g) (fun _ _ _ _ a4 _ => gM a4) ?_ _ _ _ _ _ _ ⟨rfl, rfl, rfl, hg, 0, rfl, by omega⟩
  rintro R a0 a1 a2 a3 a4 y ⟨rfl, rfl, rfl, hg2, c, rfl, hc⟩ ih
  unfold j_Mod_level_6
  rcases hg2 with rfl | ⟨f, hf, rfl⟩
  · rw [upS_neg] at hc
    refine br_t rfl ?_
    rw [show c = upS w (mP x q) g by omega]
    exact p
  · have go : ∀ v s, s = nI (w f) → j_Mod_level_55 post R (nI q) a1 b (nI c) (nI f) v s (nI c) x := by
      intro v s hs
      unfold j_Mod_level_55
      rw [hs, nI_add]
      refine nm_e ?_
      unfold wp_Mod_place
      dsimp only
      rw [pl_eq, l5, rA_nI (by omega)]
      refine ⟨vp_in_nI (by omega) (by decide), nm_e ?_⟩
      rw [upS_at hP hf] at hc
      have hc : c + (w f + upS w (mP x q) (fA x 5 (128 * q + f))) = upS w (mP x q) g := hc
      exact ih _ _ _ _ _ _ ⟨rfl, rfl, rfl, hP.ok hf, c + w f, rfl, by omega⟩ (gM_lt hP hf)
    refine br_f (nI_nm1 (by omega)) ?_
    unfold wp_Mod_place
    dsimp only
    rw [pl_eq, l3, rA_nI (by omega)]
    refine ⟨vp_in_nI (by omega) (by decide), nm_e ?_⟩
    by_cases cb : b = 0
    · rw [if_pos cb] at hw
      refine br_t cb ⟨fun k0 => go _ _ ?_, fun k0 => go _ _ ?_⟩ <;> rw [← hw] <;> unfold wDef
      · rw [if_pos k0]; rfl
      · rw [if_neg k0]; rfl
    · rw [if_neg cb] at hw
      refine br_f cb ⟨fun k0 => go _ _ ?_, fun k0 => go _ _ ?_⟩ <;> rw [← hw] <;> unfold wRep
      · rw [if_neg k0]; rfl
      · rw [if_pos k0]; rfl
theorem s_mayCome {post : Int32 → St → Prop} {x : St} {N C : Nat} {t g : Int32} (hL : LM x) (hN : fA x 9 2 = nI N) (hC : fA x 10 2 = nI C) (hC2 : C ≤ 64) (hP : wfP (mP x 2) N) (hg : gOk N g)
    (p1 : N < 128 → (t = 4 → upS wOne (mP x 2) g < 16) → (¬ t = 4 → C < 64) → post 1 x) (p0 : ¬ (N < 128 ∧ (t = 4 → upS wOne (mP x 2) g < 16) ∧ (¬ t = 4 → C < 64)) → post 0 x) (hd : upS wOne (mP x 2) g < 2 ^ 31) : wp_Mod_mayCome post t g x := by
  have h1 := hP.1
  have l9 : fN x 9 = 3 := hL 9
  have l10 : fN x 10 = 3 := hL 10
  unfold wp_Mod_mayCome j_Mod_mayCome_46 j_Mod_mayCome_42
  rw [l9, l10, show (2 : Int32) = nI 2 from rfl, rA_nI (by decide), rA_nI (by decide), hN, hC]
  refine ⟨vp_in_nI (by decide) (by decide), ?_⟩
  by_cases c : N < 128
  · refine br_f (by (first | omega | (simp (disch := omega) only [Int32.le_iff_toInt_le, Int32.lt_iff_toInt_lt, z_eq, z_in, nI_toInt, z_cl, z_m1, z_sg, z_255, Int32.reduceToInt] <;> omega) | (simp only [Int32.le_iff_toInt_le, Int32.lt_iff_toInt_lt, z_eq, z_in, z_add, z_sub, z_mul, z_neg, z_nI, z_cl, z_sg, z_255, z_lit, Int32.reduceToInt] <;> omega))) ?_
    by_cases d : t = 4
    · refine bn_t d (s_deep hL (by decide) hP hg ?_)
      by_cases e : upS wOne (mP x 2) g < 16
      · exact br_f (by (first | omega | (simp (disch := omega) only [Int32.le_iff_toInt_le, Int32.lt_iff_toInt_lt, z_eq, z_in, nI_toInt, z_cl, z_m1, z_sg, z_255, Int32.reduceToInt] <;> omega) | (simp only [Int32.le_iff_toInt_le, Int32.lt_iff_toInt_lt, z_eq, z_in, z_add, z_sub, z_mul, z_neg, z_nI, z_cl, z_sg, z_255, z_lit, Int32.reduceToInt] <;> omega))) (p1 c (fun _ => e) (fun z => absurd d z))
      · exact br_t (by (first | omega | (simp (disch := omega) only [Int32.le_iff_toInt_le, Int32.lt_iff_toInt_lt, z_eq, z_in, nI_toInt, z_cl, z_m1, z_sg, z_255, Int32.reduceToInt] <;> omega) | (simp only [Int32.le_iff_toInt_le, Int32.lt_iff_toInt_lt, z_eq, z_in, z_add, z_sub, z_mul, z_neg, z_nI, z_cl, z_sg, z_255, z_lit, Int32.reduceToInt] <;> omega))) (p0 (fun z => e (z.2.1 d)))
    · refine bn_f d ⟨vp_in_nI (by decide) (by decide), ?_⟩
      by_cases e : C < 64
      · exact br_f (by (first | omega | (simp (disch := omega) only [Int32.le_iff_toInt_le, Int32.lt_iff_toInt_lt, z_eq, z_in, nI_toInt, z_cl, z_m1, z_sg, z_255, Int32.reduceToInt] <;> omega) | (simp only [Int32.le_iff_toInt_le, Int32.lt_iff_toInt_lt, z_eq, z_in, z_add, z_sub, z_mul, z_neg, z_nI, z_cl, z_sg, z_255, z_lit, Int32.reduceToInt] <;> omega))) (p1 c (fun z => absurd z d) (fun _ => e))
      · exact br_t (by (first | omega | (simp (disch := omega) only [Int32.le_iff_toInt_le, Int32.lt_iff_toInt_lt, z_eq, z_in, nI_toInt, z_cl, z_m1, z_sg, z_255, Int32.reduceToInt] <;> omega) | (simp only [Int32.le_iff_toInt_le, Int32.lt_iff_toInt_lt, z_eq, z_in, z_add, z_sub, z_mul, z_neg, z_nI, z_cl, z_sg, z_255, z_lit, Int32.reduceToInt] <;> omega))) (p0 (fun z => e (z.2.2 d)))
  · exact br_t (by (first | omega | (simp (disch := omega) only [Int32.le_iff_toInt_le, Int32.lt_iff_toInt_lt, z_eq, z_in, nI_toInt, z_cl, z_m1, z_sg, z_255, Int32.reduceToInt] <;> omega) | (simp only [Int32.le_iff_toInt_le, Int32.lt_iff_toInt_lt, z_eq, z_in, z_add, z_sub, z_mul, z_neg, z_nI, z_cl, z_sg, z_255, z_lit, Int32.reduceToInt] <;> omega))) (p0 (fun z => c z.1))
