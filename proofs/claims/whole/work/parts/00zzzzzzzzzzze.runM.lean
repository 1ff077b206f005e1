/-! a run, model -/
abbrev FrR0 (x y : St) : Prop := Fg (fun o k => o = 0 ∧ (k = 0 ∨ k = 160 ∨ k = 162 ∨ k = 165 ∨ k = 166)) no2 no2 (fun a => 96 ≤ a ∧ a ≤ 103 ∨ 105 ≤ a ∧ a ≤ 108) (fun a => a = 113) x y
/-- what a run has found, model -/
def RaM (x : St) (F : List SFd) (G : List Nat) (CK : List (List PgW)) (Pl : List PV) (Q : Qy) : Prop := fI x 0 163 = nI (skT F Q G CK).1 ∧ fI x 0 164 = nI (skT F Q G CK).2 ∧ (cll Q = false → fI x 0 161 = nI (fndR F G CK Q).length ∧ ∀ i, i < (fndR F G CK Q).length → fA x 104 i = nI ((fndR F G CK Q).getD i 0)) ∧ (cll Q = true → ∃ A, grpA F G CK Q = some A ∧ fI x 0 161 = nI A.length ∧ A.length ≤ 500 ∧ ∀ g, g < A.length → GcA (fA x 109) (fA x 110) (fA x 111) (fA x 112) (fL x 114) F G CK Pl Q g (A.getD g (0, [])))
/-- how many answers, none if there are too many groups -/
def runO (F : List SFd) (G : List Nat) (CK : List (List PgW)) (Q : Qy) : Option Nat := if cll Q = true then (grpA F G CK Q).map List.length else some (fndR F G CK Q).length
section
variable {x y z : St} {F : List SFd} {G : List Nat} {K : List ChT} {CK : List (List PgW)} {Pl : List PV} {s : Nat} {Q : Qy}
theorem FrR0.run (f : FrR0 x y) : FrRun x y := f.mono (fun _ _ z => ⟨z.1, by omega⟩) (fun _ _ z => z) (fun _ _ z => z) (fun a z => ⟨by omega, by omega⟩) (fun _ z => Or.inl z)
theorem FrR0.lk (f : FrLk x y) : FrR0 x y := f.mono (fun _ _ z => ⟨z.1, by omega⟩) (fun _ _ z => z) (fun _ _ z => z) (fun a z => Or.inl z) (fun _ z => z.elim)
theorem FrR0.cl (f : FrCl x y) : FrR0 x y := f.mono (fun _ _ z => ⟨z.1, by omega⟩) (fun _ _ z => z) (fun _ _ z => z) (fun a z => Or.inr z) (fun _ z => z)
theorem fnd_lt {r : Nat} (h : r ∈ fndR F G CK Q) : r < smN G := by
  unfold fndR at h
  rw [List.mem_filter] at h
  exact List.mem_range.mp h.1
theorem fnd_le : (fndR F G CK Q).length ≤ smN G := by
  unfold fndR
  refine Nat.le_trans (List.length_filter_le _ _) ?_
  rw [List.length_range]
  exact Nat.le_refl _
theorem s_r183 {post : Int32 → St → Prop} {l : Int32} (hs : fI y 0 117 = nI s) (p : ∀ z, FrRun y z → (∀ k, k ≠ 121 → k ≠ 119 → k ≠ 163 → k ≠ 164 → fI z 0 k = fI y 0 k) → fA z = fA y → fL z = fL y → fI z 0 121 = 1 → fI z 0 119 = nI s → fI z 0 163 = fI y 0 165 → fI z 0 164 = fI y 0 166 → post (fI y 0 161) z) : j_Mod_run_183 post l y := by
  unfold j_Mod_run_183
  refine nm_e (nm_e (nm_e (nm_e ?_)))
  have e161 : fI (setI (setI (setI (setI y 0 121 1) 0 119 (fI (setI y 0 121 1) 0 117)) 0 163 (fI (setI (setI y 0 121 1) 0 119 (fI (setI y 0 121 1) 0 117)) 0 165)) 0 164 (fI (setI (setI (setI y 0 121 1) 0 119 (fI (setI y 0 121 1) 0 117)) 0 163 (fI (setI (setI y 0 121 1) 0 119 (fI (setI y 0 121 1) 0 117)) 0 165)) 0 166)) 0 161 = fI y 0 161 := by
    rw [gI_ne (by decide), gI_ne (by decide), gI_ne (by decide), gI_ne (by decide)]
  rw [e161]
  refine p _ ?_ ?_ rfl rfl ?_ ?_ ?_ ?_
  · exact (Fg.i (by decide)).trans ((Fg.i (by decide)).trans ((Fg.i (by decide)).trans (Fg.i (by decide))))
  · intro k k1 k2 k3 k4
    rw [gI_ne (by omega), gI_ne (by omega), gI_ne (by omega), gI_ne (by omega)]
  · rw [gI_ne (by decide), gI_ne (by decide), gI_ne (by decide), gI_at]
  · rw [gI_ne (by decide), gI_ne (by decide), gI_at, gI_ne (by decide)]
    exact hs
  · rw [gI_ne (by decide), gI_at, gI_ne (by decide), gI_ne (by decide)]
  · rw [gI_at, gI_ne (by decide), gI_ne (by decide), gI_ne (by decide)]
/-- found rows are kept -/
theorem s_keepR {post : Int32 → St → Prop} {L : List Nat} (hL : LM x) (hl : L.length ≤ 2000) (e161 : fI x 0 161 = nI L.length) (hd : ∀ i, i < L.length → fA x 103 i = nI (L.getD i 0)) (p : ∀ y, FrRun x y → (∀ k, fI y 0 k = fI x 0 k) → (∀ i, i < L.length → fA y 104 i = nI (L.getD i 0)) → ∀ l, j_Mod_run_183 post l y) : ∃ n : Nat, wl_Mod_run_157 post n 0 x := by
  refine lp_Mod_run_157 (fun b1 y => ∃ k, k ≤ L.length ∧ nI k = b1 ∧ FrRun x y ∧ (∀ k, fI y 0 k = fI x 0 k) ∧ fA y 103 = fA x 103 ∧ ∀ i, i < k → fA y 104 i = nI (L.getD i 0)) (fun b1 _ => L.length - b1.toNatClampNeg) ?_ _ _ ⟨0, Nat.zero_le _, rfl, Fg.refl _, fun _ => rfl, rfl, fun i hi => absurd hi (Nat.not_lt_zero _)⟩
  rintro R b1 y ⟨k, hk, rfl, f, eI, e103, d⟩ ih
  have Ly : LM y := fun a => (congrFun f.2.2.2.2.2 a).trans (hL a)
  unfold j_Mod_run_157
  rw [eI, e161]
  by_cases c : k = L.length
  · subst c
    exact br_t (by (first | omega | (simp (disch := omega) only [Int32.le_iff_toInt_le, Int32.lt_iff_toInt_lt, z_eq, z_in, nI_toInt, z_cl, z_m1, z_sg, z_255, Int32.reduceToInt] <;> omega) | (simp only [Int32.le_iff_toInt_le, Int32.lt_iff_toInt_lt, z_eq, z_in, z_add, z_sub, z_mul, z_neg, z_nI, z_cl, z_sg, z_255, z_lit, Int32.reduceToInt] <;> omega))) (p y f eI d _)
  · have kL : k < L.length := by omega
    refine br_f (by (first | omega | (simp (disch := omega) only [Int32.le_iff_toInt_le, Int32.lt_iff_toInt_lt, z_eq, z_in, nI_toInt, z_cl, z_m1, z_sg, z_255, Int32.reduceToInt] <;> omega) | (simp only [Int32.le_iff_toInt_le, Int32.lt_iff_toInt_lt, z_eq, z_in, z_add, z_sub, z_mul, z_neg, z_nI, z_cl, z_sg, z_255, z_lit, Int32.reduceToInt] <;> omega))) ?_
    rw [show fN y 103 = 2000 from Ly 103, show fN y 104 = 2000 from Ly 104]
    refine ⟨vp_in_nI (by omega) (by decide), vp_in_nI (by omega) (by decide), nm_r (e' := setA y 104 (nI k) (nI (L.getD k 0))) (by rw [rA_nI (by omega), e103, hd k kL]) ?_⟩
    rw [nI_1]
    refine ih _ _ ⟨k + 1, kL, rfl, f.trans (Fg.a (by decide)), eI, by rw [gA_ne (by decide)]; exact e103, fun i hi => ?_⟩ ?_
    · by_cases z : i = k
      · subst z
        exact gA_on (by omega)
      · rw [gA_off (by omega) z]
        exact d i (by omega)
    · rw [nI_clamp (by omega), nI_clamp (by omega)]
      omega
def KpG (x y : St) (n : Nat) : Prop := ∀ g, g < n → fA y 109 g = fA x 105 g ∧ fA y 110 g = fA x 106 g
def KpI (x y : St) (n : Nat) : Prop := ∀ i, i < n → fA y 111 i = fA x 107 i ∧ fA y 112 i = fA x 108 i ∧ fL y 114 i = fL x 113 i
def SrI (x y : St) : Prop := (∀ k, fI y 0 k = fI x 0 k) ∧ fA y 105 = fA x 105 ∧ fA y 106 = fA x 106 ∧ fA y 107 = fA x 107 ∧ fA y 108 = fA x 108 ∧ fL y 113 = fL x 113
/-- groups are kept -/
theorem s_keepG {post : Int32 → St → Prop} {n : Nat} (hL : LM x) (hl : n ≤ 500) (e161 : fI x 0 161 = nI n) (p : ∀ y, FrRun x y → (∀ k, fI y 0 k = fI x 0 k) → KpG x y n → KpI x y (16 * n) → ∀ l, j_Mod_run_183 post l y) : ∃ n : Nat, wl_Mod_run_48 post n 0 x := by
  refine lp_Mod_run_48 (fun b1 y => ∃ k, k ≤ n ∧ nI k = b1 ∧ FrRun x y ∧ SrI x y ∧ KpG x y k ∧ KpI x y (16 * k)) (fun b1 _ => n - b1.toNatClampNeg) ?_ _ _ ⟨0, Nat.zero_le _, rfl, Fg.refl _, ⟨fun _ => rfl, rfl, rfl, rfl, rfl, rfl⟩, fun i hi => absurd hi (Nat.not_lt_zero _), fun i hi => absurd hi (Nat.not_lt_zero _)⟩
  rintro R b1 y ⟨k, hk, rfl, f, ⟨eI, e5, e6, e7, e8, e13⟩, d, dd⟩ ih
  have Ly : LM y := fun a => (congrFun f.2.2.2.2.2 a).trans (hL a)
  unfold j_Mod_run_48
  rw [eI, e161]
  by_cases c : k = n
  · subst c
    exact br_t (by (first | omega | (simp (disch := omega) only [Int32.le_iff_toInt_le, Int32.lt_iff_toInt_lt, z_eq, z_in, nI_toInt, z_cl, z_m1, z_sg, z_255, Int32.reduceToInt] <;> omega) | (simp only [Int32.le_iff_toInt_le, Int32.lt_iff_toInt_lt, z_eq, z_in, z_add, z_sub, z_mul, z_neg, z_nI, z_cl, z_sg, z_255, z_lit, Int32.reduceToInt] <;> omega))) (p y f eI d dd _)
  · have kL : k < n := by omega
    refine br_f (by (first | omega | (simp (disch := omega) only [Int32.le_iff_toInt_le, Int32.lt_iff_toInt_lt, z_eq, z_in, nI_toInt, z_cl, z_m1, z_sg, z_255, Int32.reduceToInt] <;> omega) | (simp only [Int32.le_iff_toInt_le, Int32.lt_iff_toInt_lt, z_eq, z_in, z_add, z_sub, z_mul, z_neg, z_nI, z_cl, z_sg, z_255, z_lit, Int32.reduceToInt] <;> omega))) ?_
    rw [show fN y 105 = 500 from Ly 105, show fN y 109 = 500 from Ly 109]
    refine ⟨vp_in_nI (by omega) (by decide), vp_in_nI (by omega) (by decide), nm_r (e' := setA y 109 (nI k) (fA x 105 k)) (by rw [rA_nI (by omega), e5]) ⟨?_, ?_, nm_r (e' := setA (setA y 109 (nI k) (fA x 105 k)) 110 (nI k) (fA x 106 k)) ?_ (nm_r (e' := nI (16 * k)) (by show nI 16 * nI k = _; rw [nI_mul]) ?_)⟩⟩
    · show vp_in _ (fN y 106)
      rw [show fN y 106 = 500 from Ly 106]; exact vp_in_nI (by omega) (by decide)
    · show vp_in _ (fN y 110)
      rw [show fN y 110 = 500 from Ly 110]; exact vp_in_nI (by omega) (by decide)
    · rw [rA_nI (by omega), gA_ne (by decide), e6]
    have fz : FrRun x (setA (setA y 109 (nI k) (fA x 105 k)) 110 (nI k) (fA x 106 k)) := f.trans ((Fg.a (by decide)).trans (Fg.a (by decide)))
    have sz : SrI x (setA (setA y 109 (nI k) (fA x 105 k)) 110 (nI k) (fA x 106 k)) := ⟨eI, by rw [gA_ne (by decide), gA_ne (by decide)]; exact e5, by rw [gA_ne (by decide), gA_ne (by decide)]; exact e6, by rw [gA_ne (by decide), gA_ne (by decide)]; exact e7, by rw [gA_ne (by decide), gA_ne (by decide)]; exact e8, e13⟩
    have gz : KpG x (setA (setA y 109 (nI k) (fA x 105 k)) 110 (nI k) (fA x 106 k)) (k + 1) := by
      intro i hi
      by_cases z : i = k
      · subst z
        exact ⟨by rw [gA_ne (by decide), gA_on (by omega)], gA_on (by omega)⟩
      · obtain ⟨d1, d2⟩ := d i (by omega)
        exact ⟨by rw [gA_ne (by decide), gA_off (by omega) z]; exact d1, by rw [gA_off (by omega) z, gA_ne (by decide)]; exact d2⟩
    have iz : KpI x (setA (setA y 109 (nI k) (fA x 105 k)) 110 (nI k) (fA x 106 k)) (16 * k) := by
      intro i hi
      obtain ⟨d1, d2, d3⟩ := dd i hi
      exact ⟨by rw [gA_ne (by decide), gA_ne (by decide)]; exact d1, by rw [gA_ne (by decide), gA_ne (by decide)]; exact d2, d3⟩
    generalize setA (setA y 109 (nI k) (fA x 105 k)) 110 (nI k) (fA x 106 k) = z at *
    refine lp_Mod_run_85 (fun b1 b2 w => nI k = b1 ∧ ∃ i, 16 * k ≤ i ∧ i ≤ 16 * k + 16 ∧ nI i = b2 ∧ FrRun x w ∧ SrI x w ∧ KpG x w (k + 1) ∧ KpI x w i) (fun _ b2 _ => 16 * k + 16 - b2.toNatClampNeg) ?_ _ _ _ ⟨rfl, 16 * k, Nat.le_refl _, by omega, rfl, fz, sz, gz, iz⟩
    rintro R2 b1 b2 w ⟨rfl, i, i1, i2, rfl, fw, ⟨wI, w5, w6, w7, w8, w13⟩, gw, iw⟩ ih2
    have Lw : LM w := fun a => (congrFun fw.2.2.2.2.2 a).trans (hL a)
    unfold j_Mod_run_85
    have e16 : (16 * nI k) + 16 = nI (16 * k + 16) := by
      show nI 16 * nI k + nI 16 = _
      rw [nI_mul, nI_add]
    rw [e16]
    by_cases c2 : i = 16 * k + 16
    · subst c2
      refine br_t (by (first | omega | (simp (disch := omega) only [Int32.le_iff_toInt_le, Int32.lt_iff_toInt_lt, z_eq, z_in, nI_toInt, z_cl, z_m1, z_sg, z_255, Int32.reduceToInt] <;> omega) | (simp only [Int32.le_iff_toInt_le, Int32.lt_iff_toInt_lt, z_eq, z_in, z_add, z_sub, z_mul, z_neg, z_nI, z_cl, z_sg, z_255, z_lit, Int32.reduceToInt] <;> omega))) ?_
      rw [nI_1]
      refine ih _ _ ⟨k + 1, kL, rfl, fw, ⟨wI, w5, w6, w7, w8, w13⟩, gw, iw⟩ ?_
      rw [nI_clamp (by omega), nI_clamp (by omega)]
      omega
    · have vx : vp_in (nI i) 8000 := vp_in_nI (by omega) (by decide)
      refine br_f (by (first | omega | (simp (disch := omega) only [Int32.le_iff_toInt_le, Int32.lt_iff_toInt_lt, z_eq, z_in, nI_toInt, z_cl, z_m1, z_sg, z_255, Int32.reduceToInt] <;> omega) | (simp only [Int32.le_iff_toInt_le, Int32.lt_iff_toInt_lt, z_eq, z_in, z_add, z_sub, z_mul, z_neg, z_nI, z_cl, z_sg, z_255, z_lit, Int32.reduceToInt] <;> omega))) ?_
      rw [show fN w 107 = 8000 from Lw 107, show fN w 111 = 8000 from Lw 111]
      refine ⟨vx, vx, nm_r (e' := setA w 111 (nI i) (fA x 107 i)) (by rw [rA_nI (by omega), w7]) ⟨?_, ?_, nm_r (e' := setL (setA w 111 (nI i) (fA x 107 i)) 114 (nI i) (fL x 113 i)) ?_ ⟨?_, ?_, nm_r (e' := setA (setL (setA w 111 (nI i) (fA x 107 i)) 114 (nI i) (fL x 113 i)) 112 (nI i) (fA x 108 i)) ?_ ?_⟩⟩⟩
      · show vp_in _ (fN w 113)
        rw [show fN w 113 = 8000 from Lw 113]; exact vx
      · show vp_in _ (fN w 114)
        rw [show fN w 114 = 8000 from Lw 114]; exact vx
      · rw [rL_nI (by omega)]
        show setL _ 114 _ (fL w 113 i) = _
        rw [w13]
      · show vp_in _ (fN w 108)
        rw [show fN w 108 = 8000 from Lw 108]; exact vx
      · show vp_in _ (fN w 112)
        rw [show fN w 112 = 8000 from Lw 112]; exact vx
      · rw [rA_nI (by omega), gASL, gA_ne (by decide), w8]
      · rw [nI_1]
        have fu : FrRun w (setL (setA w 111 (nI i) (fA x 107 i)) 114 (nI i) (fL x 113 i)) := by
          have g1 : FrRun w (setA w 111 (nI i) (fA x 107 i)) := Fg.a (by decide)
          have g2 : FrRun (setA w 111 (nI i) (fA x 107 i)) (setL (setA w 111 (nI i) (fA x 107 i)) 114 (nI i) (fL x 113 i)) := Fg.l (Or.inr rfl)
          exact g1.trans g2
        have fu2 : FrRun (setL (setA w 111 (nI i) (fA x 107 i)) 114 (nI i) (fL x 113 i)) (setA (setL (setA w 111 (nI i) (fA x 107 i)) 114 (nI i) (fL x 113 i)) 112 (nI i) (fA x 108 i)) := Fg.a (by decide)
        refine ih2 _ _ _ ⟨rfl, i + 1, by omega, by omega, rfl, fw.trans (fu.trans fu2), ⟨wI, ?_, ?_, ?_, ?_, ?_⟩, fun j hj => ?_, fun j hj => ?_⟩ ?_
        · rw [gA_ne (by decide), gASL, gA_ne (by decide)]; exact w5
        · rw [gA_ne (by decide), gASL, gA_ne (by decide)]; exact w6
        · rw [gA_ne (by decide), gASL, gA_ne (by decide)]; exact w7
        · rw [gA_ne (by decide), gASL, gA_ne (by decide)]; exact w8
        · show fL (setL (setA w 111 (nI i) (fA x 107 i)) 114 (nI i) (fL x 113 i)) 113 = _
          rw [gL_ne (by decide)]
          exact w13
        · rw [gA_ne (by decide), gA_ne (by decide), gASL, gA_ne (by decide), gA_ne (by decide)]
          exact gw j hj
        · by_cases z : j = i
          · subst z
            refine ⟨?_, gA_on (by omega), gL_on (by omega)⟩
            rw [gA_ne (by decide), gASL, gA_on (by omega)]
          · obtain ⟨d1, d2, d3⟩ := iw j (by omega)
            refine ⟨?_, ?_, ?_⟩
            · rw [gA_ne (by decide), gASL, gA_off (by omega) z]; exact d1
            · rw [gA_off (by omega) z, gASL, gA_ne (by decide)]; exact d2
            · show fL (setL _ _ _ _) 114 j = _
              rw [gL_off (by omega) z]
              exact d3
        · rw [nI_clamp (by omega), nI_clamp (by omega)]
          omega
end
