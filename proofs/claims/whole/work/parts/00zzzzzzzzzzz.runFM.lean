/-! a run's frame; rows of one group, model -/
abbrev FrRun (x y : St) : Prop := Fg (fun o k => o = 0 ∧ (k = 0 ∨ k = 119 ∨ k = 121 ∨ 160 ≤ k ∧ k ≤ 166)) no2 no2 (fun a => 96 ≤ a ∧ a ≤ 112) (fun a => a = 113 ∨ a = 114) x y
section
variable {x y : St} {F : List SFd} {G : List Nat} {K : List ChT} {CK : List (List PgW)} {Pl : List PV} {s : Nat} {Q : Qy}
theorem FrRun.of (f : FrLk x y) : FrRun x y := f.mono (fun _ _ z => ⟨z.1, by omega⟩) (fun _ _ z => z) (fun _ _ z => z) (fun a z => ⟨z.1, by omega⟩) (fun _ z => z.elim)
theorem RdM.run (H : RdM x F G CK Pl) (f : FrRun x y) : RdM y F G CK Pl := by
  obtain ⟨f1, f2, f3, f4, f5, f6⟩ := f
  have ra : ∀ a, a < 96 → fA y a = fA x a := fun a c => f4 a (fun z => by omega)
  have ri : ∀ k, 1 ≤ k → k < 119 → fI y 0 k = fI x 0 k := fun k b c => f1 0 k (fun z => by omega)
  have rl : ∀ a, a < 113 → fL y a = fL x a := fun a c => f5 a (fun z => by omega)
  have rn : ∀ a, fN y a = fN x a := fun a => congrFun f6 a
  obtain ⟨h1, h2, h3, h4, h5, h6, h7, h8, h9, h10⟩ := H
  refine ⟨fun a => (rn a).trans (h1 a), ?_, ?_, h4, h5, h6, ?_, h8, ?_, ?_⟩
  · unfold RepM at *
    rw [ra 9 (by decide), ra 10 (by decide), ra 3 (by decide), ra 4 (by decide), ra 5 (by decide), ra 7 (by decide), ra 8 (by decide), ra 6 (by decide), ra 11 (by decide)]
    exact h2
  · rw [ra 53 (by decide)]; exact h3
  · rw [ra 65 (by decide), ra 61 (by decide)]; exact h7
  · unfold PoM at *
    rw [ri 93 (by decide) (by decide), ri 94 (by decide) (by decide), rl 54 (by decide), ra 55 (by decide), ra 56 (by decide), ra 57 (by decide)]
    exact h9
  · intro i hi
    have := h10 i hi
    unfold EnO at *
    rw [ra 58 (by decide), ra 59 (by decide), ra 60 (by decide)]
    exact this
theorem KqM.run (h : KqM x s Q) (f : FrRun x y) : KqM y s Q := by
  have ra : ∀ a, a < 96 → fA y a = fA x a := fun a c => f.2.2.2.1 a (fun z => by omega)
  refine ⟨SqM.cg h.1 (fun a _ z => ra a (by omega)) (f.2.2.2.2.1 93 (fun z => by omega)), fun i hi => ?_, h.2.2⟩
  rw [ra 92 (by decide)]
  exact h.2.1 i hi
theorem RnM.run (H : RnM x F G K CK Pl) (f : FrRun x y) : RnM y F G K CK Pl := by
  have ra : ∀ a, a < 96 → fA y a = fA x a := fun a c => f.2.2.2.1 a (fun z => by omega)
  obtain ⟨h1, h2, h3, h4, h5, h6⟩ := H
  refine ⟨h1.run f, (f.1 0 85 (fun z => by omega)).trans h2, h3, fun w hw => ?_, h5, fun k hk => ?_⟩
  · have := h4 w hw
    unfold KtW at *
    rw [ra 61 (by decide), ra 62 (by decide), ra 63 (by decide), ra 64 (by decide)]
    exact this
  · have := (h6 k hk).cg (y := y) (Z := []) (fun r r1 r2 => by rw [ra r (by omega)])
    rw [List.append_nil] at this
    exact this
/-- all rows are looked at -/
theorem s_lookAtAll {post : St → Prop} (H : RnM x F G K CK Pl) (hw : WfS F) (ok : OkO F G CK) (hk : KtO F G K CK) (wd : WdO F CK) (hl : CK.length = ncol F * G.length) (hs : s < 3) (h117 : fI x 0 117 = nI s) (hQ : KqM x s Q) (hW : QyW F Q) (p : ∀ y, FrLk x y → fI y 0 165 = nI (skT F Q G CK).1 → fI y 0 166 = nI (skT F Q G CK).2 → FdM y (fndR F G CK Q) → post y) : wp_Mod_lookAtAll post x := by
  unfold wp_Mod_lookAtAll
  refine nm_e (nm_e (nm_e ?_))
  have f0 : FrLk x (setI (setI (setI x 0 160 0) 0 165 0) 0 166 0) := (Fg.i (by decide)).trans ((Fg.i (by decide)).trans (Fg.i (by decide)))
  have e160 : fI (setI (setI (setI x 0 160 0) 0 165 0) 0 166 0) 0 160 = 0 := by rw [gI_ne (by decide), gI_ne (by decide), gI_at]
  have e165 : fI (setI (setI (setI x 0 160 0) 0 165 0) 0 166 0) 0 165 = 0 := by rw [gI_ne (by decide), gI_at]
  have e166 : fI (setI (setI (setI x 0 160 0) 0 165 0) 0 166 0) 0 166 = 0 := gI_at
  have d0 : FdM (setI (setI (setI x 0 160 0) 0 165 0) 0 166 0) [] := ⟨e160, fun i hi => absurd hi (Nat.not_lt_zero _)⟩
  generalize setI (setI (setI x 0 160 0) 0 165 0) 0 166 0 = y at *
  have y117 : fI y 0 117 = nI s := (f0.1 0 117 (fun z => by omega)).trans h117
  by_cases c : Q.2.2.1 = []
  · refine s_lookAll0 (H.lk f0) hs y117 (hQ.lk f0) c d0 (fun z fz z1 z2 z3 => p z (f0.trans fz) ?_ ?_ ?_)
    · rw [z1, e165]; unfold skT; rw [if_pos c]; rfl
    · rw [z2, e166]; unfold skT; rw [if_pos c]; rfl
    · unfold fndR
      rw [List.filter_eq_self.mpr]
      · exact z3
      · intro r _
        rw [decide_eq_true c]
        rfl
  · refine s_lookAll1 (H.lk f0) hw ok hk wd hl hs y117 (hQ.lk f0) hW c d0 e165 e166 (fun z fz z1 z2 z3 => p z (f0.trans fz) ?_ ?_ ?_)
    · rw [z1]; unfold skT; rw [if_neg c]
    · rw [z2]; unfold skT; rw [if_neg c]
    · unfold fndR
      rw [decide_eq_false c]
      exact z3
theorem s_sameBy {post : Int32 → St → Prop} {a b : Nat} (H : RdM x F G CK Pl) (hw : WfS F) (ok : OkO F G CK) (hl : CK.length = ncol F * G.length) (hs : s < 3) (h117 : fI x 0 117 = nI s) (hQ : KqM x s Q) (hB : ∀ f, f ∈ Q.2.1 → colF F f) (ha : a < smN G) (hb : b < smN G) (p : post (if smB F G CK Q.2.1 a b = true then 1 else 0) x) : wp_Mod_sameBy post (nI a) (nI b) x := by
  have hF := hw.1
  have hL := H.1
  obtain ⟨-, ⟨q1, q2, q3⟩, -, -⟩ := hQ.1
  have e1 : (4 * (fI x 0 117)) + 1 = nI (4 * s + 1) := by
    rw [h117]
    show nI 4 * nI s + nI 1 = _
    rw [nI_mul, nI_add]
  have v1 : rA x 79 ((4 * (fI x 0 117)) + 1) = nI Q.2.1.length := by
    rw [e1, rA_nI (by omega)]
    exact q1
  have v2 : vp_in ((4 * (fI x 0 117)) + 1) (fN x 79) := by
    rw [e1, show fN x 79 = 12 from hL 79]
    exact vp_in_nI (by omega) (by decide)
  have e2 : ∀ k, (8 * (fI x 0 117)) + nI k = nI (8 * s + k) := fun k => by
    rw [h117]
    show nI 8 * nI s + nI k = _
    rw [nI_mul, nI_add]
  generalize Q.2.1 = B at *
  unfold wp_Mod_sameBy
  refine lp_Mod_sameBy_5 (fun b1 b2 b3 b4 y => y = x ∧ nI a = b1 ∧ nI b = b2 ∧ ∃ k, k ≤ B.length ∧ nI k = b4 ∧ b3 = if smB F G CK (B.take k) a b = true then 1 else 0) (fun _ _ _ b4 _ => B.length - b4.toNatClampNeg) ?_ _ _ _ _ _ ⟨rfl, rfl, rfl, 0, Nat.zero_le _, rfl, rfl⟩
  rintro R b1 b2 b3 b4 y ⟨rfl, rfl, rfl, k, hk, rfl, rfl⟩ ih
  unfold j_Mod_sameBy_5
  rw [v1]
  refine ⟨v2, ?_⟩
  by_cases c : k = B.length
  · subst c
    rw [List.take_length]
    exact br_t (by (first | omega | (simp (disch := omega) only [Int32.le_iff_toInt_le, Int32.lt_iff_toInt_lt, z_eq, z_in, nI_toInt, z_cl, z_m1, z_sg, z_255, Int32.reduceToInt] <;> omega) | (simp only [Int32.le_iff_toInt_le, Int32.lt_iff_toInt_lt, z_eq, z_in, z_add, z_sub, z_mul, z_neg, z_nI, z_cl, z_sg, z_255, z_lit, Int32.reduceToInt] <;> omega))) ⟨nrw, p⟩
  · have kB : k < B.length := by omega
    have hfk : colF F (B.getD k 0) := hB _ (mem_gD kB)
    have f31 := hfk.1
    refine br_f (by (first | omega | (simp (disch := omega) only [Int32.le_iff_toInt_le, Int32.lt_iff_toInt_lt, z_eq, z_in, nI_toInt, z_cl, z_m1, z_sg, z_255, Int32.reduceToInt] <;> omega) | (simp only [Int32.le_iff_toInt_le, Int32.lt_iff_toInt_lt, z_eq, z_in, z_add, z_sub, z_mul, z_neg, z_nI, z_cl, z_sg, z_255, z_lit, Int32.reduceToInt] <;> omega))) ?_
    rw [e2, show fN y 83 = 24 from hL 83]
    refine ⟨vp_in_nI (by omega) (by decide), nm_r (e' := nI (B.getD k 0)) (by rw [rA_nI (by omega)]; exact q3 k kB) ?_⟩
    have tk : smB F G CK (B.take (k + 1)) a b = (smB F G CK (B.take k) a b && smO (tOf F (nI (B.getD k 0))) (celR F G CK a (ncol (F.take (B.getD k 0)))) (celR F G CK b (ncol (F.take (B.getD k 0))))) := by
      have : B.take (k + 1) = B.take k ++ [B.getD k 0] := by
        rw [List.take_succ_eq_append_getElem kB, List.getD_eq_getElem?_getD, List.getElem?_eq_getElem kB]
        rfl
      unfold smB
      rw [this, List.all_append]
      show (_ && (_ && true)) = _
      rw [Bool.and_true]
    generalize hf : B.getD k 0 = f at *
    have nx : ∀ (o : Bool) s0 l3 l6 l7, (smB F G CK (B.take (k + 1)) a b = o) → (s0 = if o = true then 1 else 0) → j_Mod_sameBy_111 post R (nI a) (nI b) l3 (nI k) (nI f) l6 l7 s0 y := by
      intro o s0 l3 l6 l7 ho hs0
      unfold j_Mod_sameBy_111
      rw [nI_1]
      refine ih _ _ _ _ _ ⟨rfl, rfl, rfl, k + 1, kB, rfl, by rw [ho]; exact hs0⟩ ?_
      rw [nI_clamp (by omega), nI_clamp (by omega)]
      omega
    have n0 : smB F G CK (B.take (k + 1)) a b = false → ∀ l3 l6 l7, j_Mod_sameBy_110 post R (nI a) (nI b) l3 (nI k) (nI f) l6 l7 y := fun h l3 l6 l7 => by
      unfold j_Mod_sameBy_110
      exact nx false 0 l3 l6 l7 h rfl
    have n1 : smB F G CK (B.take (k + 1)) a b = true → ∀ l3 l6 l7, j_Mod_sameBy_106 post R (nI a) (nI b) l3 (nI k) (nI f) l6 l7 y := fun h l3 l6 l7 => by
      unfold j_Mod_sameBy_106
      exact nx true 1 l3 l6 l7 h rfl
    have cont : ∀ r1 r2 : Int32, ((r1 = -1 ∧ celR F G CK a (ncol (F.take f)) = none) ∨ ∃ u, u < Pl.length ∧ r1 = nI u ∧ celR F G CK a (ncol (F.take f)) = some (pvd Pl u)) → ((r2 = -1 ∧ celR F G CK b (ncol (F.take f)) = none) ∨ ∃ u, u < Pl.length ∧ r2 = nI u ∧ celR F G CK b (ncol (F.take f)) = some (pvd Pl u)) → (((if smB F G CK (B.take k) a b = true then (1 : Int32) else 0) = 0 → j_Mod_sameBy_110 post R (nI a) (nI b) (if smB F G CK (B.take k) a b = true then 1 else 0) (nI k) (nI f) r1 r2 y) ∧ (¬ (if smB F G CK (B.take k) a b = true then (1 : Int32) else 0) = 0 → ((r1 = (-1) → j_Mod_sameBy_74 post R (nI a) (nI b) (if smB F G CK (B.take k) a b = true then 1 else 0) (nI k) (nI f) r1 r2 y) ∧ (¬ r1 = (-1) → ((¬ r2 = (-1) → wp_Mod_place (fun (r2559 : Int32) (x2558 : St) => (vp_in r2559 (fN x2558 4) ∧ wp_Mod_compare (fun (r2561 : Int32) (x2560 : St) => ((¬ r2561 = 0 → j_Mod_sameBy_110 post R (nI a) (nI b) (if smB F G CK (B.take k) a b = true then 1 else 0) (nI k) (nI f) r1 r2 x2560) ∧ (r2561 = 0 → j_Mod_sameBy_106 post R (nI a) (nI b) (if smB F G CK (B.take k) a b = true then 1 else 0) (nI k) (nI f) r1 r2 x2560))) (rA x2558 4 r2559) r1 r2 x2558)) 1 (nI f) y) ∧ (r2 = (-1) → j_Mod_sameBy_74 post R (nI a) (nI b) (if smB F G CK (B.take k) a b = true then 1 else 0) (nI k) (nI f) r1 r2 y)))))) := by
      intro r1 r2 h1 h2
      by_cases so : smB F G CK (B.take k) a b = true
      · rw [if_pos so]
        rw [so, Bool.true_and] at tk
        refine br_f (by decide) ?_
        rcases h1 with ⟨rfl, h1⟩ | ⟨u, hu, rfl, h1⟩
        · refine br_t rfl ?_
          unfold j_Mod_sameBy_74
          rcases h2 with ⟨rfl, h2⟩ | ⟨w, hw2, rfl, h2⟩
          · exact bn_t rfl (n1 (by rw [tk, h1, h2]; rfl) _ _ _)
          · exact bn_f (fun z => nI_nm1 (by have := H.2.2.2.2.2.2.2.2.1.2.2.1; omega) z.symm) (n0 (by rw [tk, h1, h2]; rfl) _ _ _)
        · have pl5 := H.2.2.2.2.2.2.2.2.1.2.2.1
          refine br_f (nI_nm1 (by omega)) ?_
          rcases h2 with ⟨rfl, h2⟩ | ⟨w, hw2, rfl, h2⟩
          · refine bn_t rfl ?_
            unfold j_Mod_sameBy_74
            exact bn_f (nI_nm1 (by omega)) (n0 (by rw [tk, h1, h2]; rfl) _ _ _)
          · refine bn_f (nI_nm1 (by omega)) ?_
            have ou := (cel_ok hw ok hl hfk ha h1).v
            have ow := (cel_ok hw ok hl hfk hb h2).v
            obtain ⟨-, t4, tE⟩ := tOf_n hw hfk
            have tk2 : smB F G CK (B.take (k + 1)) a b = decide (cmpV (tOf F (nI f)) (pvd Pl u) (pvd Pl w) = 0) := by rw [tk, h1, h2]; rfl
            rw [k_plM, show (128 : Int32) * 1 + nI f = nI (128 + f) from nI_add 128 f]
            have e4 : rA y 4 (nI (128 + f)) = nI (tOf F (nI f)) := by
              rw [rA_nI (by omega)]
              exact ((H.2.1.2.2.1 f hfk.1).2.1).trans tE
            rw [e4, show fN y 4 = 384 from hL 4]
            refine ⟨vp_in_nI (by omega) (by decide), s_compare hL H.2.2.2.2.2.2.2.2.1 hu hw2 t4 ou ow ?_⟩
            by_cases z : cmpV (tOf F (nI f)) (pvd Pl u) (pvd Pl w) = 0
            · exact bn_t z (n1 (by rw [tk2]; exact decide_eq_true z) _ _ _)
            · exact bn_f z (n0 (by rw [tk2]; exact decide_eq_false z) _ _ _)
      · rw [if_neg so]
        refine br_t rfl (n0 (by rw [tk, Bool.not_eq_true _ |>.mp so]; rfl) _ _ _)
    refine s_valueAt H hw ok hl hfk ha (fun h1 => ?_) (fun u hu h1 => ?_)
    · refine s_valueAt H hw ok hl hfk hb (fun h2 => ?_) (fun w hw2 h2 => ?_)
      · exact cont _ _ (Or.inl ⟨rfl, h1⟩) (Or.inl ⟨rfl, h2⟩)
      · exact cont _ _ (Or.inl ⟨rfl, h1⟩) (Or.inr ⟨w, hw2, rfl, h2⟩)
    · refine s_valueAt H hw ok hl hfk hb (fun h2 => ?_) (fun w hw2 h2 => ?_)
      · exact cont _ _ (Or.inr ⟨u, hu, rfl, h1⟩) (Or.inl ⟨rfl, h2⟩)
      · exact cont _ _ (Or.inr ⟨u, hu, rfl, h1⟩) (Or.inr ⟨w, hw2, rfl, h2⟩)
end
