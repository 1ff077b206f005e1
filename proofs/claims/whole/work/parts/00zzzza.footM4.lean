/-! the model: the schema in the footer -/
def fdB (F : List SFd) (f : Nat) : List Nat := [uI (fKd F f + 3 * fTy F f) % 256] ++ (varB (uL (fPa F f + 1).toInt64) ++ (varB (fNm F f).length ++ tB (fNm F f)))
def fdsB (F : List SFd) : Nat → List Nat
  | 0 => []
  | f + 1 => fdsB F f ++ fdB F f
theorem fdB_len {F : List SFd} {f : Nat} (h : (fNm F f).length ≤ 16) : (fdB F f).length ≤ 40 := by
  have a := varB_len (uL (fPa F f + 1).toInt64)
  have b := varB_len (fNm F f).length
  unfold fdB
  rw [List.length_append, List.length_append, List.length_append, tB_len, List.length_singleton]
  omega
theorem FrSh.rep {x y : St} {F : List SFd} (f : FrSh x y) (h : RepM x 0 F) : RepM y 0 F := by
  have eA : ∀ a, a < 12 → fA y a = fA x a := fun a ha => f.2.2.2.1 a (by omega)
  unfold RepM
  rw [eA 9 (by decide), eA 10 (by decide), eA 3 (by decide), eA 4 (by decide), eA 5 (by decide), eA 7 (by decide), eA 8 (by decide), eA 6 (by decide), eA 11 (by decide)]
  exact h
theorem s_footFields {post : St → Prop} {x : St} {F : List SFd} {l1 : Int32} {B : List Nat} (hL : LM x) (hw : WfS F) (hN : ∀ f, f < F.length → okT (fNm F f)) (hR : RepM x 0 F) (hS : Sh x B) (hB : B.length ≤ 2 ^ 20)
    (p : ∀ y, FrSh x y → Sh y (B ++ fdsB F F.length) → wp_Mod_putVarint (fun (x854 : St) => ((¬ l1 = 0) ∧ wp_Mod_putVarint (fun (x855 : St) => ∃ n : Nat, wl_Mod_putFooter_138 post n l1 0 0 x855) (((((fI x854 0 34) + l1) - 1) / l1) : Int32).toInt64 x854)) ((fI y 0 34) : Int32).toInt64 y) : ∃ n : Nat, wl_Mod_putFooter_18 post n l1 0 x := by
  have hF := hw.1
  refine lp_Mod_putFooter_18 (fun a0 a1 y => l1 = a0 ∧ ∃ f, nI f = a1 ∧ f ≤ F.length ∧ FrSh x y ∧ Sh y (B ++ fdsB F f) ∧ (fdsB F f).length ≤ 40 * f) (fun _ a1 _ => F.length - a1.toNatClampNeg) ?_ _ _ _ ⟨rfl, 0, rfl, Nat.zero_le _, Fg.refl x, by show Sh x (B ++ []); rw [List.append_nil]; exact hS, Nat.le_refl _⟩
  rintro Q a0 a1 y ⟨rfl, f, rfl, f1, y1, y2, y3⟩ ih
  have hLy := y1.lm hL
  have hRy := y1.rep hR
  have e9 : fN y 9 = 3 := hLy 9
  unfold j_Mod_putFooter_18
  refine ⟨by rw [show (0 : Int32) = nI 0 from rfl]; exact vp_in_nI (by omega) (by omega), ?_⟩
  rw [show rA y 9 0 = nI F.length from by rw [show (0 : Int32) = nI 0 from rfl, rA_nI (by decide)]; exact hRy.1]
  by_cases c : f < F.length
  · obtain ⟨k1, k2, k3, k4, k5, k6⟩ := hRy.2.2.1 f c
    rw [Nat.mul_zero, Nat.zero_add] at k1 k2 k3 k4 k5 k6
    have nm := (hN f c)
    have wl := (hw.2.2.2.1 f c).2.2.2.2
    have e3 : fN y 3 = 384 := hLy 3
    have e4 : fN y 4 = 384 := hLy 4
    refine br_f (by (first | omega | (simp (disch := omega) only [Int32.le_iff_toInt_le, Int32.lt_iff_toInt_lt, z_eq, z_in, nI_toInt, z_cl, z_m1, z_sg, z_255, Int32.reduceToInt] <;> omega) | (simp only [Int32.le_iff_toInt_le, Int32.lt_iff_toInt_lt, z_eq, z_in, z_add, z_sub, z_mul, z_neg, z_nI, z_cl, z_sg, z_255, z_lit, Int32.reduceToInt] <;> omega))) ⟨vp_in_nI (by omega) (by omega), vp_in_nI (by omega) (by omega), ?_⟩
    rw [rA_nI (by omega), rA_nI (by omega), k1, k2]
    refine s_put y2 (by rw [List.length_append]; omega) (b := uI (fKd F f + 3 * fTy F f) % 256) (Nat.mod_lt _ (by decide)) (by
      have := nI_255 (uI (fKd F f + 3 * fTy F f))
      rw [nI_uI] at this
      exact this) (fun z1 g1 s1 => ?_)
    have h1 : FrSh x z1 := Fg.trans y1 g1
    have q1 := (h1.rep hR).2.2.1 f c
    rw [Nat.mul_zero, Nat.zero_add] at q1
    have d5 : fN z1 5 = 384 := h1.lm hL 5
    refine ⟨vp_in_nI (by omega) (by omega), ?_⟩
    rw [rA_nI (by omega), q1.2.2.1]
    refine s_varint s1 (by rw [List.length_append, List.length_append]; show _ + 1 ≤ _; omega) (fun z2 g2 s2 => ?_)
    have h2 : FrSh x z2 := Fg.trans h1 g2
    have q2 := (h2.rep hR).2.2.1 f c
    rw [Nat.mul_zero, Nat.zero_add] at q2
    have d7 : fN z2 7 = 384 := h2.lm hL 7
    have v1 := varB_len (uL (fPa F f + 1).toInt64)
    refine ⟨vp_in_nI (by omega) (by omega), ?_⟩
    rw [rA_nI (by omega), q2.2.2.2.1, nI_l (by omega)]
    refine s_varint s2 (by rw [List.length_append, List.length_append, List.length_append]; show _ + _ + 1 + _ ≤ _; omega) (fun z3 g3 s3 => ?_)
    rw [uL_lN (by omega)] at s3
    have h3 : FrSh x z3 := Fg.trans h2 g3
    have v2 := varB_len (fNm F f).length
    refine lp_Mod_putFooter_73 (fun b0 b1 b2 w => l1 = b0 ∧ nI f = b1 ∧ ∃ j, nI j = b2 ∧ j ≤ (fNm F f).length ∧ FrSh x w ∧ Sh w (B ++ fdsB F f ++ [uI (fKd F f + 3 * fTy F f) % 256] ++ varB (uL (fPa F f + 1).toInt64) ++ varB (fNm F f).length ++ tB ((fNm F f).take j))) (fun _ _ b2 _ => 17 - b2.toNatClampNeg) ?_ _ _ _ _ ⟨rfl, rfl, 0, rfl, Nat.zero_le _, h3, by rw [List.take_zero]; show Sh z3 (_ ++ []); rw [List.append_nil]; exact s3⟩
    rintro Q2 b0 b1 b2 w ⟨rfl, rfl, j, rfl, j1, w1, w2⟩ ih2
    have q3 := (w1.rep hR).2.2.1 f c
    rw [Nat.mul_zero, Nat.zero_add] at q3
    have d7 : fN w 7 = 384 := w1.lm hL 7
    have d8 : fN w 8 = 6144 := w1.lm hL 8
    unfold j_Mod_putFooter_73
    refine ⟨vp_in_nI (by omega) (by omega), ?_⟩
    rw [rA_nI (by omega), q3.2.2.2.1]
    by_cases cj : j < (fNm F f).length
    · have em : (16 : Int32) * nI f + nI j = nI (16 * f + j) := by rw [show (16 : Int32) = nI 16 from rfl, nI_mul, nI_add]
      refine br_f (by (first | omega | (simp (disch := omega) only [Int32.le_iff_toInt_le, Int32.lt_iff_toInt_lt, z_eq, z_in, nI_toInt, z_cl, z_m1, z_sg, z_255, Int32.reduceToInt] <;> omega) | (simp only [Int32.le_iff_toInt_le, Int32.lt_iff_toInt_lt, z_eq, z_in, z_add, z_sub, z_mul, z_neg, z_nI, z_cl, z_sg, z_255, z_lit, Int32.reduceToInt] <;> omega))) ?_
      rw [em]
      refine ⟨vp_in_nI (by omega) (by omega), ?_⟩
      have okj := nm.2 j cj
      rw [rA_nI (by omega), q3.2.2.2.2.1 j cj, nI_1]
      refine s_put w2 ?_ (uI_by okj) (by_and okj) (fun v v1 v2 => ih2 _ _ _ _ ⟨rfl, rfl, j + 1, rfl, by omega, Fg.trans w1 v1, ?_⟩ (by rw [nI_clamp (by omega), nI_clamp (by omega)]; omega))
      · rw [List.length_append, List.length_append, List.length_append, List.length_append, List.length_append, tB_len, List.length_take, List.length_singleton]
        omega
      · rw [tk_s cj, ← List.append_assoc]
        exact v2
    · refine br_t (by (first | omega | (simp (disch := omega) only [Int32.le_iff_toInt_le, Int32.lt_iff_toInt_lt, z_eq, z_in, nI_toInt, z_cl, z_m1, z_sg, z_255, Int32.reduceToInt] <;> omega) | (simp only [Int32.le_iff_toInt_le, Int32.lt_iff_toInt_lt, z_eq, z_in, z_add, z_sub, z_mul, z_neg, z_nI, z_cl, z_sg, z_255, z_lit, Int32.reduceToInt] <;> omega))) ?_
      rw [nI_1]
      rw [show (fNm F f).take j = fNm F f from List.take_of_length_le (by omega)] at w2
      have fl := fdB_len (F := F) (f := f) wl
      refine ih _ _ _ ⟨rfl, f + 1, rfl, by omega, w1, ?_, ?_⟩ (by rw [nI_clamp (by omega), nI_clamp (by omega)]; omega)
      · show Sh w (B ++ (fdsB F f ++ fdB F f))
        unfold fdB
        simp only [List.append_assoc] at w2 ⊢
        exact w2
      · show (fdsB F f ++ fdB F f).length ≤ _
        rw [List.length_append]
        omega
  · have ef : f = F.length := by omega
    subst ef
    exact br_t (by (first | omega | (simp (disch := omega) only [Int32.le_iff_toInt_le, Int32.lt_iff_toInt_lt, z_eq, z_in, nI_toInt, z_cl, z_m1, z_sg, z_255, Int32.reduceToInt] <;> omega) | (simp only [Int32.le_iff_toInt_le, Int32.lt_iff_toInt_lt, z_eq, z_in, z_add, z_sub, z_mul, z_neg, z_nI, z_cl, z_sg, z_255, z_lit, Int32.reduceToInt] <;> omega))) (p y y1 y2)
