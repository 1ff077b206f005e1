/-! a row goes to its group, model -/
theorem gD_setL {A : Type} {d v : A} {L : List A} {g k : Nat} (h : g < L.length) : (L.set g v).getD k d = if k = g then v else L.getD k d := by
  rw [List.getD_eq_getElem?_getD, List.getElem?_set, List.getD_eq_getElem?_getD]
  by_cases c : g = k
  · subst c
    rw [if_pos rfl, if_pos h, if_pos rfl]
    rfl
  · rw [if_neg c, if_neg (fun z => c z.symm)]
def Gi3 (x y : St) (g : Nat) : Prop := ∀ j, j ≠ g → ∀ i, i < 16 → fA y 107 (16 * j + i) = fA x 107 (16 * j + i) ∧ fA y 108 (16 * j + i) = fA x 108 (16 * j + i) ∧ fL y 113 (16 * j + i) = fL x 113 (16 * j + i)
section
variable {x y : St} {F : List SFd} {G : List Nat} {CK : List (List PgW)} {Pl : List PV} {s g r : Nat} {Q : Qy} {A : List GrT}
theorem itV_same {it : QIt} {L : List Nat} (h : it.1 < 2 ∨ celR F G CK r (cOf F it.2.1) = none) : itV F G CK it (L ++ [r]) = itV F G CK it L := by
  unfold itV
  split
  · rfl
  · rename_i n
    rcases h with h | h
    · exact absurd h n
    · rw [vlG_add, h]
      exact List.append_nil _
theorem itV_more {it : QIt} {L : List Nat} {p : PV} (h : ¬ it.1 < 2) (h2 : celR F G CK r (cOf F it.2.1) = some p) : itV F G CK it (L ++ [r]) = itV F G CK it L ++ [p] := by
  unfold itV
  rw [if_neg h, if_neg h, vlG_add, h2]
theorem GiA.eqV {r7 r8 : Nat → Int32} {l : Nat → Int64} {ix : Nat} {it : QIt} {L L' : List Nat} (h : GiA r7 r8 l F G CK Pl ix it L) (e : itV F G CK it L' = itV F G CK it L) : GiA r7 r8 l F G CK Pl ix it L' := by
  unfold GiA at *
  rw [e]
  exact h
theorem s_collect {post : St → Prop} (H : RdM x F G CK Pl) (hw : WfS F) (ok : OkO F G CK) (hl : CK.length = ncol F * G.length) (hs : s < 3) (h117 : fI x 0 117 = nI s) (hQ : KqM x s Q) (hI : ∀ i, i ∈ Q.1 → itF F i) (h : GrM x F G CK Pl Q A) (hg : g < A.length) (hn : (A.getD g (0, [])).2.length < 2 ^ 30) (hr : r < smN G) (p : ∀ y, FrCl x y → fI y 0 162 = fI x 0 162 → GrM y F G CK Pl Q (A.set g ((A.getD g (0, [])).1, (A.getD g (0, [])).2 ++ [r])) → post y) : wp_Mod_collect post (nI g) (nI r) x := by
  have hL := H.1
  obtain ⟨h1, hA, h2⟩ := h
  obtain ⟨g1, g2, g3⟩ := h2 g hg
  obtain ⟨⟨q1, q2, q3⟩, -⟩ := hQ.1
  generalize hv : A.getD g (0, []) = v at *
  have g5 : g < 500 := by omega
  unfold wp_Mod_collect
  rw [show fN x 106 = 500 from hL 106]
  refine ⟨vp_in_nI g5 (by decide), vp_in_nI g5 (by decide), nm_r (e' := setA x 106 (nI g) (nI (v.2.length + 1))) (by rw [rA_nI (by omega), g2, nI_1]) ?_⟩
  refine lp_Mod_collect_12 (fun b1 b2 b3 y => nI g = b1 ∧ nI r = b2 ∧ ∃ k, k ≤ Q.1.length ∧ nI k = b3 ∧ FrCl x y ∧ fI y 0 162 = fI x 0 162 ∧ fA y 105 = fA x 105 ∧ (∀ j, j ≠ g → fA y 106 j = fA x 106 j) ∧ fA y 106 g = nI (v.2.length + 1) ∧ Gi3 x y g ∧ ∀ i, i < Q.1.length → GiA (fA y 107) (fA y 108) (fL y 113) F G CK Pl (16 * g + i) (Q.1.getD i (0, 0, 0)) (if i < k then v.2 ++ [r] else v.2)) (fun _ _ b3 _ => Q.1.length - b3.toNatClampNeg) ?_ _ _ _ _ ⟨rfl, rfl, 0, Nat.zero_le _, rfl, Fg.a (by decide), rfl, gA_ne (by decide), fun j hj => gA_off (by omega) hj, gA_on (by omega), fun j hj i hi => ⟨by rw [gA_ne (by decide)], by rw [gA_ne (by decide)], rfl⟩, fun i hi => ?_⟩
  rotate_left
  · rw [if_neg (Nat.not_lt_zero _), gA_ne (by decide), gA_ne (by decide)]
    exact g3 i hi
  rintro R b1 b2 b3 y ⟨rfl, rfl, k, hk, rfl, f, e162, e105, o6, n6, o3, it⟩ ih
  have Hy := H.cl f
  have Ly := Hy.1
  have Qy := hQ.cl f
  have y117 : fI y 0 117 = nI s := (f.1 0 117 (fun z => by omega)).trans h117
  obtain ⟨⟨q1, q2, q3⟩, -⟩ := Qy.1
  have e0 : 4 * (fI y 0 117) = nI (4 * s) := by
    rw [y117]
    show nI 4 * nI s = _
    rw [nI_mul]
  have e1 : (16 * (fI y 0 117)) + nI k = nI (16 * s + k) := by
    rw [y117]
    show nI 16 * nI s + nI k = _
    rw [nI_mul, nI_add]
  unfold j_Mod_collect_12
  have r79 : rA y 79 (nI (4 * s)) = nI Q.1.length := by
    rw [rA_nI (by omega)]; exact q1
  rw [e0, r79, show fN y 79 = 12 from Ly 79]
  refine ⟨vp_in_nI (by omega) (by decide), ?_⟩
  by_cases c : k = Q.1.length
  · subst c
    refine br_t (by (first | omega | (simp (disch := omega) only [Int32.le_iff_toInt_le, Int32.lt_iff_toInt_lt, z_eq, z_in, nI_toInt, z_cl, z_m1, z_sg, z_255, Int32.reduceToInt] <;> omega) | (simp only [Int32.le_iff_toInt_le, Int32.lt_iff_toInt_lt, z_eq, z_in, z_add, z_sub, z_mul, z_neg, z_nI, z_cl, z_sg, z_255, z_lit, Int32.reduceToInt] <;> omega))) (p y f e162 ⟨?_, ?_, fun j hj => ?_⟩)
    · rw [List.length_set, e162, h1]
    · rw [List.length_set]; exact hA
    · rw [List.length_set] at hj
      rw [gD_setL hg]
      by_cases z : j = g
      · subst z
        rw [if_pos rfl]
        refine ⟨by rw [e105]; exact g1, by rw [n6, List.length_append]; rfl, fun i hi => ?_⟩
        have := it i hi
        rw [if_pos hi] at this
        exact this
      · rw [if_neg z]
        obtain ⟨a1, a2, a3⟩ := h2 j hj
        refine ⟨by rw [e105]; exact a1, (o6 j z).trans a2, fun i hi => ?_⟩
        obtain ⟨c1, c2, c3⟩ := o3 j z i (by omega)
        exact (a3 i hi).cg c1 c2 c3
  · have kq : k < Q.1.length := by omega
    obtain ⟨t1, t2, -⟩ := q3 k kq
    have hit := hI _ (mem_gD (d := (0, 0, 0)) kq)
    have itk := it k kq
    rw [if_neg (Nat.lt_irrefl _)] at itk
    refine br_f (by (first | omega | (simp (disch := omega) only [Int32.le_iff_toInt_le, Int32.lt_iff_toInt_lt, z_eq, z_in, nI_toInt, z_cl, z_m1, z_sg, z_255, Int32.reduceToInt] <;> omega) | (simp only [Int32.le_iff_toInt_le, Int32.lt_iff_toInt_lt, z_eq, z_in, z_add, z_sub, z_mul, z_neg, z_nI, z_cl, z_sg, z_255, z_lit, Int32.reduceToInt] <;> omega))) ?_
    rw [e1, show fN y 80 = 48 from Ly 80, show fN y 81 = 48 from Ly 81]
    have r80 : rA y 80 (nI (16 * s + k)) = (Q.1.getD k (0, 0, 0)).1 := by
      rw [rA_nI (by omega)]; exact t1
    have r81 : rA y 81 (nI (16 * s + k)) = (Q.1.getD k (0, 0, 0)).2.1 := by
      rw [rA_nI (by omega)]; exact t2
    rw [r80, r81]
    refine ⟨vp_in_nI (by omega) (by decide), nm_e ⟨vp_in_nI (by omega) (by decide), nm_e ?_⟩⟩
    generalize hit0 : Q.1.getD k (0, 0, 0) = q at *
    have nx : ∀ z (a f0 : Int32), FrCl y z → fI z 0 162 = fI y 0 162 → fA z 105 = fA y 105 → fA z 106 = fA y 106 → (∀ ix, ix ≠ 16 * g + k → fA z 107 ix = fA y 107 ix ∧ fA z 108 ix = fA y 108 ix ∧ fL z 113 ix = fL y 113 ix) → GiA (fA z 107) (fA z 108) (fL z 113) F G CK Pl (16 * g + k) q (v.2 ++ [r]) → j_Mod_collect_203 post R (nI g) (nI r) (nI k) q.1 f0 a z := by
      intro z a f0 fz z1 z2 z3 z4 z5
      unfold j_Mod_collect_203
      rw [nI_1]
      refine ih _ _ _ _ ⟨rfl, rfl, k + 1, kq, rfl, f.trans fz, z1.trans e162, z2.trans e105, fun j hj => by rw [z3]; exact o6 j hj, by rw [z3]; exact n6, fun j hj i hi => ?_, fun i hi => ?_⟩ ?_
      · obtain ⟨c1, c2, c3⟩ := z4 (16 * j + i) (by omega)
        obtain ⟨d1, d2, d3⟩ := o3 j hj i hi
        exact ⟨c1.trans d1, c2.trans d2, c3.trans d3⟩
      · by_cases w : i = k
        · subst w
          rw [if_pos (Nat.lt_succ_self _), hit0]
          exact z5
        · obtain ⟨c1, c2, c3⟩ := z4 (16 * g + i) (by omega)
          have := (it i hi).cg c1 c2 c3
          by_cases u : i < k
          · rw [if_pos u] at this
            rw [if_pos (by omega)]
            exact this
          · rw [if_neg u] at this
            rw [if_neg (by omega)]
            exact this
      · rw [nI_clamp (by omega), nI_clamp (by omega)]
        omega
    have no : ∀ f0, (q.1 < 2 ∨ celR F G CK r (cOf F q.2.1) = none) → j_Mod_collect_76 post R (nI g) (nI r) (nI k) q.1 f0 (-1) y := by
      intro f0 w
      unfold j_Mod_collect_76
      exact bn_t rfl (nx y _ _ (Fg.refl _) rfl rfl rfl (fun _ _ => ⟨rfl, rfl, rfl⟩) (itk.eqV (itV_same w)))
    rcases hit with ⟨i1, -⟩ | ⟨i1, -⟩ | ⟨i1, i2, f0, hf, ef, -⟩
    · refine br_f (by rw [i1]; decide) (no _ (Or.inl (by rw [i1]; decide)))
    · refine br_f (by rw [i1]; decide) (no _ (Or.inl (by rw [i1]; decide)))
    · have n2 : ¬ q.1 < 2 := fun z => by (first | omega | (simp (disch := omega) only [Int32.le_iff_toInt_le, Int32.lt_iff_toInt_lt, z_eq, z_in, nI_toInt, z_cl, z_m1, z_sg, z_255, Int32.reduceToInt] at * <;> omega) | (simp only [Int32.le_iff_toInt_le, Int32.lt_iff_toInt_lt, z_eq, z_in, z_add, z_sub, z_mul, z_neg, z_nI, z_cl, z_sg, z_255, z_lit, Int32.reduceToInt] at * <;> omega))
      refine br_t i1 ?_
      have co : cOf F q.2.1 = ncol (F.take f0) := by
        unfold cOf fOf
        rw [ef, nI_clamp (by have := hf.1; have := hw.1; omega)]
      rw [ef]
      refine s_valueAt Hy hw ok hl hf hr (fun w => ?_) (fun a ha w => ?_)
      · exact no _ (Or.inr (by rw [co]; exact w))
      · have oa := (cel_ok hw ok hl hf hr w).v
        refine s_c76 Hy hw g5 (by omega) hf ef ha (by rw [ef]; exact oa) itk (itV_more n2 (by rw [co]; exact w)) (fun z fz z1 z2 z3 z4 z5 => nx z _ _ fz z1 z2 z3 z4 z5)
end
