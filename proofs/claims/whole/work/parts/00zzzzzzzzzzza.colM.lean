/-! groups gather, model -/
def BsP (Pl : List PV) (ty : Nat) (o : Option PV) (v : Int32) : Prop := (o = none → v = -1) ∧ ∀ p, o = some p → okVv ty p ∧ ∃ a, a < Pl.length ∧ v = nI a ∧ pvd Pl a = p
def GiA (r7 r8 : Nat → Int32) (l : Nat → Int64) (F : List SFd) (G : List Nat) (CK : List (List PgW)) (Pl : List PV) (ix : Nat) (it : QIt) (L : List Nat) : Prop := r7 ix = nI (itV F G CK it L).length ∧ l ix = sumL (itV F G CK it L) ∧ BsP Pl (tOf F it.2.1) (bst (tOf F it.2.1) (decide (it.1 = 4)) (itV F G CK it L)) (r8 ix)
def GcA (r5 r6 r7 r8 : Nat → Int32) (l : Nat → Int64) (F : List SFd) (G : List Nat) (CK : List (List PgW)) (Pl : List PV) (Q : Qy) (g : Nat) (A : GrT) : Prop := r5 g = A.1 ∧ r6 g = nI A.2.length ∧ ∀ i, i < Q.1.length → GiA r7 r8 l F G CK Pl (16 * g + i) (Q.1.getD i (0, 0, 0)) A.2
def GrM (x : St) (F : List SFd) (G : List Nat) (CK : List (List PgW)) (Pl : List PV) (Q : Qy) (A : List GrT) : Prop := fI x 0 162 = nI A.length ∧ A.length ≤ 500 ∧ ∀ g, g < A.length → GcA (fA x 105) (fA x 106) (fA x 107) (fA x 108) (fL x 113) F G CK Pl Q g (A.getD g (0, []))
abbrev FrCl (x y : St) : Prop := Fg (fun o k => o = 0 ∧ k = 162) no2 no2 (fun a => 105 ≤ a ∧ a ≤ 108) (fun a => a = 113) x y
theorem gL_off {x : St} {r r' K k : Nat} {v : Int64} (hK : K < 2 ^ 31) (h : k ≠ K) : fL (setL x r (nI K) v) r' k = fL x r' k := by
  by_cases c : r' = r
  · subst c
    rw [gL_at, nI_clamp hK]
    show (if k = K then v else _) = _
    rw [if_neg h]
  · rw [gL_ne c]
theorem gL_on {x : St} {r K : Nat} {v : Int64} (hK : K < 2 ^ 31) : fL (setL x r (nI K) v) r K = v := by
  rw [gL_at, nI_clamp hK]
  show (if K = K then v else _) = _
  rw [if_pos rfl]
theorem FrCl.two {x : St} (a b c : Int32) (d : Int64) : FrCl x (setL (setA x 107 a b) 113 c d) := by
  have g1 : FrCl x (setA x 107 a b) := Fg.a (by decide)
  have g2 : FrCl (setA x 107 a b) (setL (setA x 107 a b) 113 c d) := Fg.l rfl
  exact g1.trans g2
theorem FrCl.three {x : St} (a b c : Int32) (d : Int64) (e f : Int32) : FrCl x (setA (setL (setA x 107 a b) 113 c d) 108 e f) := by
  have g3 : FrCl (setL (setA x 107 a b) 113 c d) (setA (setL (setA x 107 a b) 113 c d) 108 e f) := Fg.a (by decide)
  exact (FrCl.two a b c d).trans g3
section
variable {x y : St} {F : List SFd} {G : List Nat} {CK : List (List PgW)} {Pl : List PV} {s g r : Nat} {Q : Qy} {A : List GrT}
theorem GiA.cg {r7 r8 q7 q8 : Nat → Int32} {l m : Nat → Int64} {ix : Nat} {it : QIt} {L : List Nat} (h : GiA r7 r8 l F G CK Pl ix it L) (e7 : q7 ix = r7 ix) (e8 : q8 ix = r8 ix) (el : m ix = l ix) : GiA q7 q8 m F G CK Pl ix it L := by
  unfold GiA at *
  rw [e7, e8, el]
  exact h
theorem itV_nil {it : QIt} : itV F G CK it [] = [] := by
  unfold itV vlG
  split <;> rfl
theorem s_newGroup {post : St → Prop} {v : Int32} (hL : LM x) (h : GrM x F G CK Pl Q A) (hA : A.length < 500) (hi : Q.1.length ≤ 16) (p : ∀ y, FrCl x y → GrM y F G CK Pl Q (A ++ [(v, [])]) → post y) : wp_Mod_newGroup post v x := by
  obtain ⟨h1, -, h2⟩ := h
  unfold wp_Mod_newGroup
  generalize hn : A.length = n at *
  rw [h1, show fN x 105 = 500 from hL 105]
  refine ⟨vp_in_nI hA (by decide), nm_e ⟨?_, nm_r (e' := setA (setA x 105 (nI n) v) 106 (nI n) 0) (by show setA _ 106 (fI x 0 162) 0 = _; rw [h1]) ?_⟩⟩
  · show vp_in (fI x 0 162) (fN x 106)
    rw [h1, show fN x 106 = 500 from hL 106]
    exact vp_in_nI hA (by decide)
  refine lp_Mod_newGroup_22 (fun b1 b2 y => b1 = v ∧ ∃ k, k ≤ 16 ∧ nI k = b2 ∧ FrCl x y ∧ fI y 0 162 = nI n ∧ (∀ k, k ≠ n → fA y 105 k = fA x 105 k ∧ fA y 106 k = fA x 106 k) ∧ fA y 105 n = v ∧ fA y 106 n = 0 ∧ (∀ ix, ix < 16 * n → fA y 107 ix = fA x 107 ix ∧ fA y 108 ix = fA x 108 ix ∧ fL y 113 ix = fL x 113 ix) ∧ ∀ i, i < k → fA y 107 (16 * n + i) = 0 ∧ fL y 113 (16 * n + i) = 0 ∧ fA y 108 (16 * n + i) = -1) (fun _ b2 _ => 16 - b2.toNatClampNeg) ?_ _ _ _ ⟨rfl, 0, Nat.zero_le _, rfl, (Fg.a (by decide)).trans (Fg.a (by decide)), h1, fun k hk => ⟨?_, ?_⟩, ?_, gA_on (by omega), fun ix _ => ⟨by rw [gA_ne (by decide), gA_ne (by decide)], by rw [gA_ne (by decide), gA_ne (by decide)], rfl⟩, fun i hi => absurd hi (Nat.not_lt_zero _)⟩
  rotate_left
  · rw [gA_ne (by decide), gA_off (by omega) hk]
  · rw [gA_off (by omega) hk, gA_ne (by decide)]
  · rw [gA_ne (by decide), gA_on (by omega)]
  rintro R b1 b2 y ⟨rfl, k, hk, rfl, f, e162, o5, n5, n6, oo, nn⟩ ih
  have Ly : LM y := fun a => (congrFun f.2.2.2.2.2 a).trans (hL a)
  unfold j_Mod_newGroup_22
  by_cases c : k = 16
  · subst c
    refine br_t (by decide) (nm_r (e' := setI y 0 162 (nI (n + 1))) (by rw [e162, nI_1]) (p _ (f.trans (Fg.i (by decide))) ⟨?_, ?_, fun g hg => ?_⟩))
    · rw [gI_at, List.length_append, hn]; rfl
    · rw [List.length_append, hn]
      show n + 1 ≤ 500
      omega
    · rcases gD_snoc (d := ((0, []) : GrT)) hg with ⟨g1, g2⟩ | ⟨g1, g2⟩
      · rw [g2]
        rw [hn] at g1
        obtain ⟨a1, a2, a3⟩ := h2 g g1
        refine ⟨(o5 g (by omega)).1.trans a1, (o5 g (by omega)).2.trans a2, fun i hi2 => ?_⟩
        obtain ⟨c1, c2, c3⟩ := oo (16 * g + i) (by omega)
        exact (a3 i hi2).cg c1 c2 c3
      · rw [g2, g1, hn]
        refine ⟨n5, n6, fun i hi2 => ?_⟩
        obtain ⟨c1, c2, c3⟩ := nn i (by omega)
        unfold GiA
        rw [itV_nil]
        exact ⟨c1, c2, fun _ => c3, fun p hp => nomatch hp⟩
  · have k16 : k < 16 := by omega
    have e : (16 * (fI y 0 162)) + nI k = nI (16 * n + k) := by
      rw [e162]
      show nI 16 * nI n + nI k = _
      rw [nI_mul, nI_add]
    have vx : vp_in (nI (16 * n + k)) 8000 := vp_in_nI (by omega) (by decide)
    refine br_f (by (first | omega | (simp (disch := omega) only [Int32.le_iff_toInt_le, Int32.lt_iff_toInt_lt, z_eq, z_in, nI_toInt, z_cl, z_m1, z_sg, z_255, Int32.reduceToInt] <;> omega) | (simp only [Int32.le_iff_toInt_le, Int32.lt_iff_toInt_lt, z_eq, z_in, z_add, z_sub, z_mul, z_neg, z_nI, z_cl, z_sg, z_255, z_lit, Int32.reduceToInt] <;> omega))) ?_
    rw [e, show fN y 107 = 8000 from Ly 107]
    refine ⟨vx, nm_e ⟨?_, nm_r (e' := setL (setA y 107 (nI (16 * n + k)) 0) 113 (nI (16 * n + k)) 0) (by show setL _ 113 ((16 * (fI y 0 162)) + nI k) 0 = _; rw [e]) ⟨?_, nm_r (e' := setA (setL (setA y 107 (nI (16 * n + k)) 0) 113 (nI (16 * n + k)) 0) 108 (nI (16 * n + k)) (-1)) (by show setA _ 108 ((16 * (fI y 0 162)) + nI k) (-1) = _; rw [e]) ?_⟩⟩⟩
    · show vp_in ((16 * (fI y 0 162)) + nI k) (fN y 113)
      rw [e, show fN y 113 = 8000 from Ly 113]
      exact vx
    · show vp_in ((16 * (fI y 0 162)) + nI k) (fN y 108)
      rw [e, show fN y 108 = 8000 from Ly 108]
      exact vx
    · rw [nI_1]
      refine ih _ _ _ ⟨rfl, k + 1, k16, rfl, f.trans (FrCl.three _ _ _ _ _ _), e162, fun j hj => ?_, ?_, ?_, fun ix hx => ?_, fun i hi2 => ?_⟩ ?_
      · exact o5 j hj
      · exact n5
      · exact n6
      · obtain ⟨c1, c2, c3⟩ := oo ix hx
        refine ⟨?_, ?_, ?_⟩
        · rw [gA_ne (by decide)]
          show fA (setA y 107 _ _) 107 ix = _
          rw [gA_off (by omega) (by omega)]
          exact c1
        · rw [gA_off (by omega) (by omega)]
          exact c2
        · show fL (setL _ _ _ _) 113 ix = _
          rw [gL_off (by omega) (by omega)]
          exact c3
      · by_cases z : i = k
        · subst z
          refine ⟨?_, ?_, gA_on (by omega)⟩
          · rw [gA_ne (by decide)]
            show fA (setA y 107 _ _) 107 _ = _
            rw [gA_on (by omega)]
          · show fL (setL _ _ _ _) 113 _ = _
            rw [gL_on (by omega)]
        · obtain ⟨c1, c2, c3⟩ := nn i (by omega)
          refine ⟨?_, ?_, ?_⟩
          · rw [gA_ne (by decide)]
            show fA (setA y 107 _ _) 107 _ = _
            rw [gA_off (by omega) (by omega)]
            exact c1
          · show fL (setL _ _ _ _) 113 _ = _
            rw [gL_off (by omega) (by omega)]
            exact c2
          · rw [gA_off (by omega) (by omega)]
            exact c3
      · rw [nI_clamp (by omega), nI_clamp (by omega)]
        omega
end
