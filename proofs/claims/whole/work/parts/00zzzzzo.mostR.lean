/-! the model holds values against what was told -/
def NvM (y : St) (ty : Nat) (P : List PV) : Prop := (ty = 3 → NwT y P) ∧ (ty ≠ 3 → NwW y P)
section
variable {x : St} {T : Nat → Nat} {n st p ty : Nat} {P : List PV} {v : PV}
theorem s_against {post : Int32 → St → Prop} {k i : Nat} (hL : LM x) (h38 : fI x 0 38 = nI ty) (hty : ty < 4) (hP : NvM x ty P) (hl : P.length ≤ 1000) (ok : ∀ j, j < P.length → okVv ty (pvd P j)) (okv : okVv ty v) (hV : ToM x ty i v) (hi : i < 2) (hk : k < P.length) (q : post (cmpV ty (pvd P k) v) x) : wp_Mod_against post (nI k) (nI i) x := by
  have e31 : fN x 31 = 1000 := hL 31
  have e34 : fN x 34 = 1001 := hL 34
  have e37 : fN x 37 = 20000 := hL 37
  have e47 : fN x 47 = 2 := hL 47
  have e48 : fN x 48 = 2 := hL 48
  have e49 : fN x 49 = 512 := hL 49
  unfold wp_Mod_against
  rw [h38]
  by_cases c3 : ty = 3
  · obtain ⟨w1, w2, w3, w4, w5⟩ := hP.1 c3
    obtain ⟨t1, t2, t3⟩ := hV.2 c3
    have lk := (ok k hk c3).1
    have o1 : oF P (k + 1) = oF P k + (pvd P k).2.length := rfl
    have o2 := oF_le (P := P) (k := k + 1) (n := P.length) (by omega)
    unfold cmpV at q
    rw [if_pos c3] at q
    unfold cmpT at q
    refine br_t (by rw [c3]; rfl) ?_
    rw [nI_1]
    refine ⟨vp_in_nI (by omega) (by omega), vp_in_nI (by omega) (by omega), nm_r (e' := nI (pvd P k).2.length) (by rw [rA_nI (by omega), rA_nI (by omega), w4 _ (by omega), w4 _ (by omega), nI_sub (by omega)]; congr 1; omega) ?_⟩
    refine lp_Mod_against_69 (fun a0 a1 a2 a3 y => nI k = a0 ∧ nI i = a1 ∧ nI (pvd P k).2.length = a2 ∧ x = y ∧ ∃ j, nI j = a3 ∧ j ≤ (pvd P k).2.length ∧ j ≤ v.2.length ∧ ∀ l, l < j → (pvd P k).2.getD l 0 = v.2.getD l 0) (fun _ _ _ a3 _ => 257 - a3.toNatClampNeg) ?_ _ _ _ _ _ ⟨rfl, rfl, rfl, rfl, 0, rfl, Nat.zero_le _, Nat.zero_le _, fun l hl => absurd hl (Nat.not_lt_zero _)⟩
    rintro Q a0 a1 a2 a3 y ⟨rfl, rfl, rfl, rfl, j, rfl, j1, j2, j3⟩ ih
    have v48 : vp_in (nI i) (fN x 48) := vp_in_nI (by omega) (by omega)
    have r48 : rA x 48 (nI i) = nI v.2.length := by rw [rA_nI (by omega)]; exact t2
    have out : (j = (pvd P k).2.length ∨ j = v.2.length) → j_Mod_against_151 post (nI k) (nI i) (nI (pvd P k).2.length) (nI j) x := fun z => by
      unfold j_Mod_against_151
      refine ⟨v48, ?_⟩
      rw [r48]
      have ec := cpl_is j1 j2 j3 (by omega)
      rw [← ec, if_neg (by omega)] at q
      exact q
    unfold j_Mod_against_69
    by_cases c1 : j < (pvd P k).2.length
    · refine br_f (by (first | omega | (simp (disch := omega) only [Int32.le_iff_toInt_le, Int32.lt_iff_toInt_lt, z_eq, z_in, nI_toInt, z_cl, z_m1, z_sg, z_255, Int32.reduceToInt] <;> omega) | (simp only [Int32.le_iff_toInt_le, Int32.lt_iff_toInt_lt, z_eq, z_in, z_add, z_sub, z_mul, z_neg, z_nI, z_cl, z_sg, z_255, z_lit, Int32.reduceToInt] <;> omega))) ⟨v48, ?_⟩
      rw [r48]
      by_cases c2 : j < v.2.length
      · refine br_f (by (first | omega | (simp (disch := omega) only [Int32.le_iff_toInt_le, Int32.lt_iff_toInt_lt, z_eq, z_in, nI_toInt, z_cl, z_m1, z_sg, z_255, Int32.reduceToInt] <;> omega) | (simp only [Int32.le_iff_toInt_le, Int32.lt_iff_toInt_lt, z_eq, z_in, z_add, z_sub, z_mul, z_neg, z_nI, z_cl, z_sg, z_255, z_lit, Int32.reduceToInt] <;> omega))) ⟨vp_in_nI (by omega) (by omega), ?_⟩
        rw [show rA x 34 (nI k) = nI (oF P k) from by rw [rA_nI (by omega)]; exact w4 k (by omega), nI_add, show (256 : Int32) * nI i + nI j = nI (256 * i + j) from by rw [show (256 : Int32) = nI 256 from rfl, nI_mul, nI_add]]
        have v37 : vp_in (nI (oF P k + j)) (fN x 37) := vp_in_nI (by omega) (by omega)
        have v49 : vp_in (nI (256 * i + j)) (fN x 49) := vp_in_nI (by omega) (by omega)
        refine ⟨v37, v49, ?_⟩
        rw [show rA x 37 (nI (oF P k + j)) = (pvd P k).2.getD j 0 from by rw [rA_nI (by omega)]; exact w5 k hk j c1, show rA x 49 (nI (256 * i + j)) = v.2.getD j 0 from by rw [rA_nI (by omega)]; exact t3 j c2]
        by_cases e : (pvd P k).2.getD j 0 = v.2.getD j 0
        · refine br_t e ?_
          rw [nI_1]
          refine ih _ _ _ _ _ ⟨rfl, rfl, rfl, rfl, j + 1, rfl, by omega, by omega, fun l hl => ?_⟩ (by rw [nI_clamp (by omega), nI_clamp (by omega)]; omega)
          by_cases z : l = j
          · rw [z]; exact e
          · exact j3 l (by omega)
        · refine br_f e ⟨vp_in_nI (by omega) (by omega), v37, v49, ?_⟩
          have ec := cpl_is j1 j2 j3 (Or.inr (Or.inr e))
          rw [← ec, if_pos ⟨c1, c2⟩] at q
          exact q
      · exact br_t (by (first | omega | (simp (disch := omega) only [Int32.le_iff_toInt_le, Int32.lt_iff_toInt_lt, z_eq, z_in, nI_toInt, z_cl, z_m1, z_sg, z_255, Int32.reduceToInt] <;> omega) | (simp only [Int32.le_iff_toInt_le, Int32.lt_iff_toInt_lt, z_eq, z_in, z_add, z_sub, z_mul, z_neg, z_nI, z_cl, z_sg, z_255, z_lit, Int32.reduceToInt] <;> omega))) (out (by omega))
    · exact br_t (by (first | omega | (simp (disch := omega) only [Int32.le_iff_toInt_le, Int32.lt_iff_toInt_lt, z_eq, z_in, nI_toInt, z_cl, z_m1, z_sg, z_255, Int32.reduceToInt] <;> omega) | (simp only [Int32.le_iff_toInt_le, Int32.lt_iff_toInt_lt, z_eq, z_in, z_add, z_sub, z_mul, z_neg, z_nI, z_cl, z_sg, z_255, z_lit, Int32.reduceToInt] <;> omega))) (out (by omega))
  · have w := hP.2 c3 k hk
    have t := hV.1 c3
    unfold cmpV at q
    rw [if_neg c3] at q
    have v31 : vp_in (nI k) (fN x 31) := vp_in_nI (by omega) (by omega)
    have v47 : vp_in (nI i) (fN x 47) := vp_in_nI (by omega) (by omega)
    refine br_f (fun z => c3 (nI_inj (b := 3) (by omega) (by decide) z)) ⟨v31, v47, ?_⟩
    rw [rL_nI (by omega), rL_nI (by omega), w, t, lg_cmp_ge, lg_cmp_le]
    by_cases c1 : (pvd P k).1 < v.1
    · rw [if_pos c1] at q
      exact br_f (Int64.not_le.mpr c1) q
    · rw [if_neg c1] at q
      refine br_t (Int64.not_lt.mp c1) ⟨v31, v47, ?_⟩
      by_cases c2 : v.1 < (pvd P k).1
      · rw [if_pos c2] at q; exact br_f (Int64.not_le.mpr c2) q
      · rw [if_neg c2] at q; exact br_t (Int64.not_lt.mp c2) q
/-- i is 0: it is the least; 1: the greatest -/
theorem s_isMost {post : Int32 → St → Prop} {i : Nat} (hL : LM x) (h38 : fI x 0 38 = nI ty) (hty : ty < 4) (hP : NvM x ty P) (hl : P.length ≤ 1000) (ok : ∀ j, j < P.length → okVv ty (pvd P j)) (okv : okVv ty v) (hV : ToM x ty i v) (hi : i < 2)
    (p1 : ((∃ k, k < P.length ∧ cmpV ty (pvd P k) v = 0) ∧ ¬ ∃ k, k < P.length ∧ (if i = 0 then cmpV ty (pvd P k) v < 0 else 0 < cmpV ty (pvd P k) v)) → post 1 x)
    (p0 : ¬ ((∃ k, k < P.length ∧ cmpV ty (pvd P k) v = 0) ∧ ¬ ∃ k, k < P.length ∧ (if i = 0 then cmpV ty (pvd P k) v < 0 else 0 < cmpV ty (pvd P k) v)) → post 0 x) : wp_Mod_isMost post (nI P.length) (nI i) x := by
  unfold wp_Mod_isMost
  refine lp_Mod_isMost_8 (fun a0 a1 a2 a3 a4 y => nI P.length = a0 ∧ nI i = a1 ∧ x = y ∧ ∃ k, nI k = a4 ∧ k ≤ P.length ∧ (a2 = 0 ∧ (¬ ∃ j, j < k ∧ cmpV ty (pvd P j) v = 0) ∨ a2 = 1 ∧ ∃ j, j < k ∧ cmpV ty (pvd P j) v = 0) ∧ (a3 = 0 ∧ (¬ ∃ j, j < k ∧ (if i = 0 then cmpV ty (pvd P j) v < 0 else 0 < cmpV ty (pvd P j) v)) ∨ a3 = 1 ∧ ∃ j, j < k ∧ (if i = 0 then cmpV ty (pvd P j) v < 0 else 0 < cmpV ty (pvd P j) v))) (fun _ _ _ _ a4 _ => P.length - a4.toNatClampNeg) ?_ _ _ _ _ _ _ ⟨rfl, rfl, rfl, 0, rfl, Nat.zero_le _, Or.inl ⟨rfl, fun z => by obtain ⟨j, j1, -⟩ := z; omega⟩, Or.inl ⟨rfl, fun z => by obtain ⟨j, j1, -⟩ := z; omega⟩⟩
  rintro Q a0 a1 a2 a3 a4 y ⟨rfl, rfl, rfl, k, rfl, k1, f1, f2⟩ ih
  unfold j_Mod_isMost_8 j_Mod_isMost_86
  by_cases c : k < P.length
  · refine br_f (by (first | omega | (simp (disch := omega) only [Int32.le_iff_toInt_le, Int32.lt_iff_toInt_lt, z_eq, z_in, nI_toInt, z_cl, z_m1, z_sg, z_255, Int32.reduceToInt] <;> omega) | (simp only [Int32.le_iff_toInt_le, Int32.lt_iff_toInt_lt, z_eq, z_in, z_add, z_sub, z_mul, z_neg, z_nI, z_cl, z_sg, z_255, z_lit, Int32.reduceToInt] <;> omega))) (s_against hL h38 hty hP hl ok okv hV hi c ?_)
    generalize hcv : cmpV ty (pvd P k) v = cv
    have nx : ∀ s2 s3, (s2 = 0 ∧ (¬ ∃ j, j < k + 1 ∧ cmpV ty (pvd P j) v = 0) ∨ s2 = 1 ∧ ∃ j, j < k + 1 ∧ cmpV ty (pvd P j) v = 0) → (s3 = 0 ∧ (¬ ∃ j, j < k + 1 ∧ (if i = 0 then cmpV ty (pvd P j) v < 0 else 0 < cmpV ty (pvd P j) v)) ∨ s3 = 1 ∧ ∃ j, j < k + 1 ∧ (if i = 0 then cmpV ty (pvd P j) v < 0 else 0 < cmpV ty (pvd P j) v)) → ∀ l4, j_Mod_isMost_65 post Q (nI P.length) (nI i) s2 l4 (nI k) cv s3 x := fun s2 s3 e2 e3 l4 => by
      unfold j_Mod_isMost_65
      rw [nI_1]
      exact ih _ _ _ _ _ _ ⟨rfl, rfl, rfl, k + 1, rfl, c, e2, e3⟩ (by rw [nI_clamp (by omega), nI_clamp (by omega)]; omega)
    have two : ∀ s2, (s2 = 0 ∧ (¬ ∃ j, j < k + 1 ∧ cmpV ty (pvd P j) v = 0) ∨ s2 = 1 ∧ ∃ j, j < k + 1 ∧ cmpV ty (pvd P j) v = 0) → ∀ l3, j_Mod_isMost_37 post Q (nI P.length) (nI i) l3 a3 (nI k) cv s2 x := fun s2 e2 l3 => by
      unfold j_Mod_isMost_37 j_Mod_isMost_60 j_Mod_isMost_64
      have far : (if i = 0 then cv < 0 else 0 < cv) → (1 = (0 : Int32) ∧ (¬ ∃ j, j < k + 1 ∧ (if i = 0 then cmpV ty (pvd P j) v < 0 else 0 < cmpV ty (pvd P j) v)) ∨ 1 = (1 : Int32) ∧ ∃ j, j < k + 1 ∧ (if i = 0 then cmpV ty (pvd P j) v < 0 else 0 < cmpV ty (pvd P j) v)) := fun z => Or.inr ⟨rfl, k, by omega, by rw [hcv]; exact z⟩
      rcases f2 with ⟨q1, q2⟩ | ⟨q1, j, q2, q3⟩
      · refine ⟨fun z => absurd q1 z, fun _ => ?_⟩
        have near : ¬ (if i = 0 then cv < 0 else 0 < cv) → (a3 = (0 : Int32) ∧ (¬ ∃ j, j < k + 1 ∧ (if i = 0 then cmpV ty (pvd P j) v < 0 else 0 < cmpV ty (pvd P j) v)) ∨ a3 = (1 : Int32) ∧ ∃ j, j < k + 1 ∧ (if i = 0 then cmpV ty (pvd P j) v < 0 else 0 < cmpV ty (pvd P j) v)) := fun z => Or.inl ⟨q1, fun w => by
          obtain ⟨j, j1, j2⟩ := w
          by_cases ej : j = k
          · rw [ej, hcv] at j2; exact z j2
          · exact q2 ⟨j, by omega, j2⟩⟩
        by_cases ci : i = 0
        · refine ⟨fun z => absurd (by rw [ci]; rfl) z, fun _ => ?_⟩
          rw [if_pos ci] at far near
          by_cases cz : 0 ≤ cv
          · have := nx s2 a3 e2 (near (Int32.not_lt.mpr cz)) a3
            rw [q1] at this ⊢
            exact br_t cz this
          · exact br_f cz (nx s2 1 e2 (far (Int32.not_le.mp cz)) _)
        · refine ⟨fun _ => ?_, fun z => absurd (nI_inj (b := 0) (by omega) (by decide) z) ci⟩
          rw [if_neg ci] at far near
          by_cases cz : cv ≤ 0
          · have := nx s2 a3 e2 (near (Int32.not_lt.mpr cz)) a3
            rw [q1] at this ⊢
            exact br_t cz this
          · exact br_f cz (nx s2 1 e2 (far (Int32.not_le.mp cz)) _)
      · refine ⟨fun _ => nx s2 1 e2 (Or.inr ⟨rfl, j, by omega, q3⟩) _, fun z => absurd (q1.symm.trans z) (by decide)⟩
    unfold j_Mod_isMost_32
    rcases f1 with ⟨q1, q2⟩ | ⟨q1, j, q2, q3⟩
    · refine ⟨fun z => absurd q1 z, fun _ => ?_⟩
      by_cases cz : cv = 0
      · exact ⟨fun z => absurd cz z, fun _ => two 1 (Or.inr ⟨rfl, k, by omega, by rw [hcv]; exact cz⟩) _⟩
      · refine ⟨fun _ => two 0 (Or.inl ⟨rfl, fun w => ?_⟩) _, fun z => absurd z cz⟩
        obtain ⟨j, j1, j2⟩ := w
        by_cases ej : j = k
        · rw [ej, hcv] at j2; exact cz j2
        · exact q2 ⟨j, by omega, j2⟩
    · exact ⟨fun _ => two 1 (Or.inr ⟨rfl, j, by omega, q3⟩) _, fun z => absurd (q1.symm.trans z) (by decide)⟩
  · have ek : k = P.length := by omega
    subst ek
    refine br_t (by (first | omega | (simp (disch := omega) only [Int32.le_iff_toInt_le, Int32.lt_iff_toInt_lt, z_eq, z_in, nI_toInt, z_cl, z_m1, z_sg, z_255, Int32.reduceToInt] <;> omega) | (simp only [Int32.le_iff_toInt_le, Int32.lt_iff_toInt_lt, z_eq, z_in, z_add, z_sub, z_mul, z_neg, z_nI, z_cl, z_sg, z_255, z_lit, Int32.reduceToInt] <;> omega))) ?_
    rcases f1 with ⟨q1, q2⟩ | ⟨q1, q2⟩
    · exact ⟨fun _ => p0 (fun z => q2 z.1), fun z => absurd q1 z⟩
    · refine ⟨fun z => absurd (q1.symm.trans z) (by decide), fun _ => ?_⟩
      rcases f2 with ⟨r1, r2⟩ | ⟨r1, r2⟩
      · exact ⟨fun z => absurd r1 z, fun _ => p1 ⟨q2, r2⟩⟩
      · exact ⟨fun _ => p0 (fun z => z.2 r2), fun z => absurd (r1.symm.trans z) (by decide)⟩
theorem mn_ok (h : P.length ≠ 0) (ok : ∀ j, j < P.length → okVv ty (pvd P j)) (okv : okVv ty v) : ((∃ k, k < P.length ∧ cmpV ty (pvd P k) v = 0) ∧ ¬ ∃ k, k < P.length ∧ cmpV ty (pvd P k) v < 0) ↔ kv ty (pvd P (mnF ty P (P.length - 1))) = kv ty v := by
  have q := mn_is (ty := ty) (P := P) ok (P.length - 1) (by omega)
  rw [show P.length - 1 + 1 = P.length by omega, List.take_length] at q
  have ml := mnF_le (ty := ty) (P := P) (P.length - 1)
  have om := ok (mnF ty P (P.length - 1)) (by omega)
  have mem : ∀ k, k < P.length → pvd P k ∈ P := fun k hk => by
    unfold pvd
    rw [List.getD_eq_getElem?_getD, List.getElem?_eq_getElem hk]
    exact List.getElem_mem hk
  constructor
  · rintro ⟨⟨k, k1, k2⟩, h2⟩
    have e := (cmpV_0 (ok k k1) okv).mp k2
    have n1 := q.1.2 _ (mem k k1)
    have n2 : ¬ ltV ty (pvd P (mnF ty P (P.length - 1))) v := fun z => h2 ⟨_, by omega, (cmpV_lt om okv).1.mpr z⟩
    have n1' : ¬ ltV ty v (pvd P (mnF ty P (P.length - 1))) := fun z => n1 ((ltV_cg e).2.mpr z)
    exact ltV_tot n2 n1'
  · intro e
    refine ⟨⟨_, by omega, (cmpV_0 om okv).mpr e⟩, fun z => ?_⟩
    obtain ⟨k, k1, k2⟩ := z
    have := (cmpV_lt (ok k k1) okv).1.mp k2
    exact q.1.2 _ (mem k k1) ((ltV_cg e).1.mpr this)
theorem mx_ok (h : P.length ≠ 0) (ok : ∀ j, j < P.length → okVv ty (pvd P j)) (okv : okVv ty v) : ((∃ k, k < P.length ∧ cmpV ty (pvd P k) v = 0) ∧ ¬ ∃ k, k < P.length ∧ 0 < cmpV ty (pvd P k) v) ↔ kv ty (pvd P (mxF ty P (P.length - 1))) = kv ty v := by
  have q := mn_is (ty := ty) (P := P) ok (P.length - 1) (by omega)
  rw [show P.length - 1 + 1 = P.length by omega, List.take_length] at q
  have ml := mxF_le (ty := ty) (P := P) (P.length - 1)
  have om := ok (mxF ty P (P.length - 1)) (by omega)
  have mem : ∀ k, k < P.length → pvd P k ∈ P := fun k hk => by
    unfold pvd
    rw [List.getD_eq_getElem?_getD, List.getElem?_eq_getElem hk]
    exact List.getElem_mem hk
  constructor
  · rintro ⟨⟨k, k1, k2⟩, h2⟩
    have e := (cmpV_0 (ok k k1) okv).mp k2
    have n1 := q.2.2 _ (mem k k1)
    have n2 : ¬ ltV ty v (pvd P (mxF ty P (P.length - 1))) := fun z => h2 ⟨_, by omega, (cmpV_lt om okv).2.mpr z⟩
    have n1' : ¬ ltV ty (pvd P (mxF ty P (P.length - 1))) v := fun z => n1 ((ltV_cg e).1.mpr z)
    exact ltV_tot n1' n2
  · intro e
    refine ⟨⟨_, by omega, (cmpV_0 om okv).mpr e⟩, fun z => ?_⟩
    obtain ⟨k, k1, k2⟩ := z
    have := (cmpV_lt (ok k k1) okv).2.mp k2
    exact q.2.2 _ (mem k k1) ((ltV_cg e).2.mpr this)
end
