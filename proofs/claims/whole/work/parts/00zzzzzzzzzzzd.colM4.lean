/-! all found rows go to their groups, model -/
theorem putG_ne {same : Nat → Nat → Bool} {r : Nat} : ∀ {A : List GrT}, (putG same r A).length ≤ A.length + 1
  | [] => Nat.le_refl _
  | a :: A => by
    show (if same (fOf a.1) r = true then _ else _ : List GrT).length ≤ _
    split
    · show A.length + 1 ≤ A.length + 1 + 1
      omega
    · show (putG same r A).length + 1 ≤ A.length + 1 + 1
      exact Nat.succ_le_succ (putG_ne (A := A))
theorem set_last {A : Type} {L : List A} {v w : A} : (L ++ [v]).set L.length w = L ++ [w] := by
  induction L with
  | nil => rfl
  | cons a L ih => show a :: ((L ++ [v]).set L.length w) = _; rw [ih]; rfl
section
variable {x y : St} {F : List SFd} {G : List Nat} {CK : List (List PgW)} {Pl : List PV} {s g r : Nat} {Q : Qy} {A : List GrT}
theorem FdM.cl {L : List Nat} (h : FdM x L) (f : FrCl x y) : FdM y L := by
  unfold FdM at *
  rw [show fI y 0 160 = fI x 0 160 from f.1 0 160 (fun z => by omega), show fA y 103 = fA x 103 from f.2.2.2.1 103 (fun z => by omega)]
  exact h
theorem s_collectAll {post : Int32 → St → Prop} {L : List Nat} (H : RdM x F G CK Pl) (hw : WfS F) (ok : OkO F G CK) (hl : CK.length = ncol F * G.length) (hs : s < 3) (h117 : fI x 0 117 = nI s) (hQ : KqM x s Q) (hW : QyW F Q) (hd : FdM x L) (hL2 : L.length ≤ 2000) (hr : ∀ r, r ∈ L → r < smN G)
    (p0 : Q.2.1 ≠ [] → grpG (smB F G CK Q.2.1) L [] = none → ∀ y, FrCl x y → post 0 y) (p1 : ∀ A, (if Q.2.1 = [] then some [(-1, L)] else grpG (smB F G CK Q.2.1) L []) = some A → ∀ y, FrCl x y → GrM y F G CK Pl Q A → post 1 y) : wp_Mod_collectAll post x := by
  have h2000 := H.2.2.2.2.1
  unfold wp_Mod_collectAll
  refine nm_e ?_
  have f0 : FrCl x (setI x 0 162 0) := Fg.i (by decide)
  have g0 : GrM (setI x 0 162 0) F G CK Pl Q [] := ⟨gI_at, by decide, fun g hg => absurd hg (Nat.not_lt_zero _)⟩
  generalize setI x 0 162 0 = y at *
  have Hy := H.cl f0
  have Qy := hQ.cl f0
  have y117 : fI y 0 117 = nI s := (f0.1 0 117 (fun z => by omega)).trans h117
  obtain ⟨-, ⟨q1, q2, q3⟩, -⟩ := Qy.1
  have e1 : (4 * (fI y 0 117)) + 1 = nI (4 * s + 1) := by
    rw [y117]
    show nI 4 * nI s + nI 1 = _
    rw [nI_mul, nI_add]
  have r79 : rA y 79 (nI (4 * s + 1)) = nI Q.2.1.length := by
    rw [rA_nI (by omega)]; exact q1
  rw [e1, r79, show fN y 79 = 12 from Hy.1 79]
  refine ⟨vp_in_nI (by omega) (by decide), ?_⟩
  have rk : ∀ z, FrCl x z → ∀ k, k < L.length → rA z 103 (nI k) = nI (L.getD k 0) ∧ vp_in (nI k) (fN z 103) := by
    intro z fz k hk
    rw [show fN z 103 = 2000 from (H.cl fz).1 103]
    refine ⟨?_, vp_in_nI (by omega) (by decide)⟩
    rw [rA_nI (by omega)]
    exact (hd.cl fz).2 k hk
  by_cases cB : Q.2.1 = []
  · rw [if_pos cB] at p1
    have p1 := p1 _ rfl
    refine bn_t (by rw [cB]; rfl) ?_
    unfold j_Mod_collectAll_26
    refine br_f (by decide) (s_newGroup Hy.1 g0 (by decide) Qy.1.1.2.1 (fun z fz gz => ?_))
    have gz : GrM z F G CK Pl Q [(-1, L.take 0)] := gz
    unfold j_Mod_collectAll_36
    refine lp_Mod_collectAll_38 (fun b1 b2 w => 1 = b1 ∧ ∃ k, k ≤ L.length ∧ nI k = b2 ∧ FrCl x w ∧ GrM w F G CK Pl Q [(-1, L.take k)]) (fun _ b2 _ => L.length - b2.toNatClampNeg) ?_ _ _ _ ⟨rfl, 0, Nat.zero_le _, rfl, f0.trans fz, gz⟩
    rintro R b1 b2 w ⟨rfl, k, hk, rfl, fw, gw⟩ ih
    unfold j_Mod_collectAll_38
    rw [(hd.cl fw).1]
    by_cases c : k = L.length
    · subst c
      rw [List.take_length] at gw
      exact br_t (by (first | omega | (simp (disch := omega) only [Int32.le_iff_toInt_le, Int32.lt_iff_toInt_lt, z_eq, z_in, nI_toInt, z_cl, z_m1, z_sg, z_255, Int32.reduceToInt] <;> omega) | (simp only [Int32.le_iff_toInt_le, Int32.lt_iff_toInt_lt, z_eq, z_in, z_add, z_sub, z_mul, z_neg, z_nI, z_cl, z_sg, z_255, z_lit, Int32.reduceToInt] <;> omega))) (p1 w fw gw)
    · have kL : k < L.length := by omega
      refine br_f (by (first | omega | (simp (disch := omega) only [Int32.le_iff_toInt_le, Int32.lt_iff_toInt_lt, z_eq, z_in, nI_toInt, z_cl, z_m1, z_sg, z_255, Int32.reduceToInt] <;> omega) | (simp only [Int32.le_iff_toInt_le, Int32.lt_iff_toInt_lt, z_eq, z_in, z_add, z_sub, z_mul, z_neg, z_nI, z_cl, z_sg, z_255, z_lit, Int32.reduceToInt] <;> omega))) ⟨1, ?_⟩
      show j_Mod_collectAll_48 post R _ 1 (nI k) 0 w
      unfold j_Mod_collectAll_48
      refine bn_f (by decide) ?_
      unfold j_Mod_collectAll_85
      refine bn_f (by decide) (bn_f (by rw [gw.1]; exact fun z => nomatch z) ?_)
      unfold j_Mod_collectAll_112
      obtain ⟨k1, k2⟩ := rk w fw k kL
      rw [k1]
      refine ⟨k2, s_collect (g := 0) (H.cl fw) hw ok hl hs ((fw.1 0 117 (fun z => by omega)).trans h117) (hQ.cl fw) hW.2.1 gw (Nat.zero_lt_one) ?_ (hr _ (mem_gD kL)) (fun u fu _ gu => ?_)⟩
      · show (L.take k).length < _
        rw [List.length_take]
        omega
      · rw [nI_1]
        refine ih _ _ _ ⟨rfl, k + 1, kL, rfl, fw.trans fu, ?_⟩ ?_
        · have e : L.take (k + 1) = L.take k ++ [L.getD k 0] := by
            rw [List.take_succ_eq_append_getElem kL, List.getD_eq_getElem?_getD, List.getElem?_eq_getElem kL]
            rfl
          rw [e]
          exact gu
        · rw [nI_clamp (by omega), nI_clamp (by omega)]
          omega
  · rw [if_neg cB] at p1
    have p0 := p0 cB
    have lB : 0 < Q.2.1.length := List.length_pos_iff.mpr cB
    refine bn_f (by rw [show (0 : Int32) = nI 0 from rfl]; exact fun z => by have := nI_inj (by omega) (by omega) z; omega) ?_
    unfold j_Mod_collectAll_26
    refine br_t rfl ?_
    unfold j_Mod_collectAll_36
    generalize hsm : smB F G CK Q.2.1 = same at *
    refine lp_Mod_collectAll_38 (fun b1 b2 w => 0 = b1 ∧ ∃ k A, k ≤ L.length ∧ nI k = b2 ∧ FrCl x w ∧ GrM w F G CK Pl Q A ∧ grpG same (L.drop k) A = grpG same L [] ∧ ∀ g, g < A.length → (A.getD g (0, [])).2.length ≤ k ∧ ∃ a, a < smN G ∧ (A.getD g (0, [])).1 = nI a) (fun _ b2 _ => L.length - b2.toNatClampNeg) ?_ _ _ _ ⟨rfl, 0, [], Nat.zero_le _, rfl, f0, g0, rfl, fun g hg => absurd hg (Nat.not_lt_zero _)⟩
    rintro R b1 b2 w ⟨rfl, k, A, hk, rfl, fw, gw, ew, aw⟩ ih
    have Hw := H.cl fw
    have Qw := hQ.cl fw
    have w117 : fI w 0 117 = nI s := (fw.1 0 117 (fun z => by omega)).trans h117
    unfold j_Mod_collectAll_38
    rw [(hd.cl fw).1]
    by_cases c : k = L.length
    · subst c
      rw [List.drop_length] at ew
      exact br_t (by (first | omega | (simp (disch := omega) only [Int32.le_iff_toInt_le, Int32.lt_iff_toInt_lt, z_eq, z_in, nI_toInt, z_cl, z_m1, z_sg, z_255, Int32.reduceToInt] <;> omega) | (simp only [Int32.le_iff_toInt_le, Int32.lt_iff_toInt_lt, z_eq, z_in, z_add, z_sub, z_mul, z_neg, z_nI, z_cl, z_sg, z_255, z_lit, Int32.reduceToInt] <;> omega))) (p1 A ew.symm w fw gw)
    · have kL : k < L.length := by omega
      obtain ⟨k1, k2⟩ := rk w fw k kL
      have hrk := hr _ (mem_gD (d := 0) kL)
      have ed : grpG same (L.drop k) A = if 500 < (putG same (L.getD k 0) A).length then none else grpG same (L.drop (k + 1)) (putG same (L.getD k 0) A) := by
        rw [List.drop_eq_getElem_cons kL]
        have e : L[k] = L.getD k 0 := by rw [List.getD_eq_getElem?_getD, List.getElem?_eq_getElem kL]; rfl
        rw [e]
        rfl
      generalize hrr : L.getD k 0 = rr at *
      have A5 := gw.2.1
      refine br_f (by (first | omega | (simp (disch := omega) only [Int32.le_iff_toInt_le, Int32.lt_iff_toInt_lt, z_eq, z_in, nI_toInt, z_cl, z_m1, z_sg, z_255, Int32.reduceToInt] <;> omega) | (simp only [Int32.le_iff_toInt_le, Int32.lt_iff_toInt_lt, z_eq, z_in, z_add, z_sub, z_mul, z_neg, z_nI, z_cl, z_sg, z_255, z_lit, Int32.reduceToInt] <;> omega))) ?_
      -- a row goes to group g of B
      have put : ∀ u B g, FrCl x u → GrM u F G CK Pl Q B → g < B.length → (B.getD g (0, [])).2.length ≤ k → putG same rr A = B.set g ((B.getD g (0, [])).1, (B.getD g (0, [])).2 ++ [rr]) → (∀ j, j < B.length → (B.getD j (0, [])).2.length ≤ k ∧ ∃ a, a < smN G ∧ (B.getD j (0, [])).1 = nI a) → j_Mod_collectAll_112 post R 0 (nI k) (nI g) u := by
        intro u B g fu gu hg hn e hB
        obtain ⟨k1, k2⟩ := rk u fu k kL
        unfold j_Mod_collectAll_112
        rw [k1, hrr]
        refine ⟨k2, s_collect (H.cl fu) hw ok hl hs ((fu.1 0 117 (fun z => by omega)).trans h117) (hQ.cl fu) hW.2.1 gu hg (by omega) hrk (fun v fv _ gv => ?_)⟩
        rw [nI_1]
        have l5 : ¬ 500 < (putG same rr A).length := by rw [e]; exact Nat.not_lt_of_le gv.2.1
        rw [if_neg l5] at ed
        rw [← e] at gv
        refine ih _ _ _ ⟨rfl, k + 1, putG same rr A, kL, rfl, fu.trans fv, gv, ed.symm.trans ew, fun j hj => ?_⟩ ?_
        · rw [e] at hj ⊢
          rw [List.length_set] at hj
          rw [gD_setL hg]
          obtain ⟨j1, j2⟩ := hB j hj
          by_cases z : j = g
          · subst z
            rw [if_pos rfl]
            refine ⟨?_, j2⟩
            show ((B.getD j (0, [])).2 ++ [rr]).length ≤ k + 1
            rw [List.length_append]
            show _ + 1 ≤ k + 1
            omega
          · rw [if_neg z]
            exact ⟨by omega, j2⟩
        · rw [nI_clamp (by omega), nI_clamp (by omega)]
          omega
      refine lp_Mod_collectAll_48 (fun b1 b2 b3 v => v = w ∧ 0 = b1 ∧ nI k = b2 ∧ ∃ g, g ≤ A.length ∧ nI g = b3 ∧ ∀ j, j < g → ¬ same (fOf (A.getD j (0, [])).1) rr = true) (fun _ _ b3 _ => A.length - b3.toNatClampNeg) ?_ _ _ _ _ ⟨rfl, rfl, rfl, 0, Nat.zero_le _, rfl, fun j hj => absurd hj (Nat.not_lt_zero _)⟩
      rintro R2 b1 b2 b3 v ⟨rfl, rfl, rfl, g, hg, rfl, no⟩ ih2
      unfold j_Mod_collectAll_48
      refine bn_t rfl ?_
      rw [gw.1]
      by_cases z : g = A.length
      · refine br_t (by (first | omega | (simp (disch := omega) only [Int32.le_iff_toInt_le, Int32.lt_iff_toInt_lt, z_eq, z_in, nI_toInt, z_cl, z_m1, z_sg, z_255, Int32.reduceToInt] <;> omega) | (simp only [Int32.le_iff_toInt_le, Int32.lt_iff_toInt_lt, z_eq, z_in, z_add, z_sub, z_mul, z_neg, z_nI, z_cl, z_sg, z_255, z_lit, Int32.reduceToInt] <;> omega))) ?_
        have eN : putG same rr A = A ++ [(nI rr, [rr])] := putG_new (by rw [← z]; exact no)
        unfold j_Mod_collectAll_85
        by_cases u : g = 500
        · refine bn_t (by rw [u]; rfl) (p0 ?_ v fw)
          rw [← ew, ed, if_pos]
          rw [eN, List.length_append]
          show 500 < A.length + 1
          omega
        · refine bn_f (by rw [show (500 : Int32) = nI 500 from rfl]; exact fun z => by have := nI_inj (by omega) (by omega) z; omega) (bn_t (by rw [gw.1, z]) ?_)
          rw [k1]
          refine ⟨k2, s_newGroup Hw.1 gw (by omega) Qw.1.1.2.1 (fun u fu gu => ?_)⟩
          have ge : (A ++ [(nI rr, [])]).getD A.length ((0, []) : GrT) = (nI rr, []) := by
            rw [List.getD_eq_getElem?_getD, List.getElem?_append_right (Nat.le_refl _), Nat.sub_self]
            rfl
          rw [z]
          refine put u (A ++ [(nI rr, [])]) A.length (fw.trans fu) gu ?_ ?_ ?_ ?_
          · rw [List.length_append]
            exact Nat.lt_succ_self _
          · rw [ge]
            exact Nat.zero_le _
          · rw [ge, eN, set_last]
            rfl
          · intro j hj
            rcases gD_snoc (d := ((0, []) : GrT)) hj with ⟨g1, g2⟩ | ⟨g1, g2⟩
            · rw [g2]
              exact aw j g1
            · rw [g2]
              exact ⟨Nat.zero_le _, rr, hrk, rfl⟩
      · have gA : g < A.length := by omega
        obtain ⟨a1, a, a2, a3⟩ := aw g gA
        refine br_f (by (first | omega | (simp (disch := omega) only [Int32.le_iff_toInt_le, Int32.lt_iff_toInt_lt, z_eq, z_in, nI_toInt, z_cl, z_m1, z_sg, z_255, Int32.reduceToInt] <;> omega) | (simp only [Int32.le_iff_toInt_le, Int32.lt_iff_toInt_lt, z_eq, z_in, z_add, z_sub, z_mul, z_neg, z_nI, z_cl, z_sg, z_255, z_lit, Int32.reduceToInt] <;> omega))) ?_
        have r105 : rA v 105 (nI g) = nI a := by
          rw [rA_nI (by omega), (gw.2.2 g gA).1, a3]
        rw [r105, k1, show fN v 105 = 500 from Hw.1 105]
        have fa : fOf (A.getD g (0, [])).1 = a := by
          rw [a3]
          exact nI_clamp (by omega)
        refine ⟨vp_in_nI (by omega) (by decide), k2, s_sameBy Hw hw ok hl hs w117 Qw hW.2.2.1 a2 hrk ?_⟩
        rw [hsm]
        by_cases t : same a rr = true
        · rw [if_pos t]
          refine bn_f (by decide) ?_
          unfold j_Mod_collectAll_85
          refine bn_f (by rw [show (500 : Int32) = nI 500 from rfl]; exact fun z => by have := nI_inj (by omega) (by omega) z; omega) (bn_f (by rw [gw.1]; exact fun z => by have := nI_inj (by omega) (by omega) z; omega) ?_)
          exact put v A g fw gw gA a1 (putG_at gA no (by rw [fa]; exact t)) aw
        · rw [if_neg t]
          refine bn_t rfl ?_
          rw [nI_1]
          refine ih2 _ _ _ _ ⟨rfl, rfl, rfl, g + 1, gA, rfl, fun j hj => ?_⟩ ?_
          · by_cases o : j = g
            · subst o
              rw [fa]
              exact t
            · exact no j (by omega)
          · rw [nI_clamp (by omega), nI_clamp (by omega)]
            omega
end
