/-! a group is written, model -/
section
variable {x y : St} {F : List SFd} {W : Nat → Bool} {Q : List PV} {e q : Nat → Nat} {S : Nat → List SEn} {g : Int32} {D d f : Nat}
def fldB (F : List SFd) (W : Nat → Bool) (D f : Nat) (S : Nat → List SEn) : List Nat := tB (fNm F f) ++ [58] ++ (if fKd F f = 2 then 91 :: (tlR (tlG vlB F W D) vlB F f (gdc F W f) (S (gdc F W f)).length S ++ [93]) else tlO (tlG vlB F W D) vlB F f (gdc F W f) S)
theorem TgM.kid (hw : WfS F) (hf : f < F.length) (hg : fPa F f = g) (T : TgM x F W Q e q S g) (hgd : gdL F W f ≠ []) (hp : dG F (nI f) ≤ hdD (S (gdc F W f))) : TgM x F W Q e q S (nI f) := by
  obtain ⟨t1, t2, t3, t4, t5⟩ := T
  obtain ⟨g1, g2, g3⟩ := gdc_ok hgd
  refine ⟨t1, t2, t3.kid hw hf hg g1 g2 g3 hp, t4, fun c hc wc hi => t5 c hc wc ?_⟩
  rw [← hg]
  exact inG_up hw hf (lfC_ok hc).1 ((inG_f hf hw.1).mp hi)
theorem s_field {post : St → Prop} {R : Int32 → Int32 → Int32 → St → Prop} {B : List Nat} {a1 : Int32} (hw : WfS F) (hN : NmS F) (ho : okTO F W Q e q D d) (hf : f < F.length) (hg : fPa F f = g) (hgd : gdL F W f ≠ []) (T : TgM y F W Q e q S (nI f)) (hD : 17 ≤ upS wOne (fPa F) (nI f) + D) (hO : OutM y B) (hC : CuM y F W e S (nI f))
    (hB : (B ++ fldB F W D f S).length < 2 ^ 29)
    (p : ∀ z, FrTm y z → OutM z (B ++ fldB F W D f S) → CuM z F W e (fun c => rst (rgF F g) (S c)) (nI f) → ElM y z F W (nI f) → R g 1 (nI (f + 1)) z) :
    j_Mod_tellGroup_93 post (wr_Mod_tellGroup d).1 (wr_Mod_tellGroup d).2 R g a1 (nI f) (nI (gdc F W f)) y := by
  have h128 := hw.1
  have n16 := (hw.2.2.2.1 f hf).2.2.2.2
  have hBl := hB
  unfold fldB at hBl
  simp only [List.length_append] at hBl
  have tl : (tB (fNm F f)).length = (fNm F f).length := List.length_map ..
  have l58' : ([58] : List Nat).length = 1 := rfl
  unfold j_Mod_tellGroup_93
  refine lp_Mod_tellGroup_98 (fun a0 a1 a2 a3 a4 z => g = a0 ∧ (1 : Int32) = a1 ∧ nI f = a2 ∧ nI (gdc F W f) = a3 ∧ FrTl y z ∧ ∃ k, nI k = a4 ∧ k ≤ (fNm F f).length ∧ OutM z (B ++ (tB (fNm F f)).take k)) (fun _ _ _ _ a4 _ => (fNm F f).length - a4.toNatClampNeg) ?_ _ _ _ _ _ _ ⟨rfl, rfl, rfl, rfl, Fg.refl y, 0, rfl, Nat.zero_le _, by rw [List.take_zero, List.append_nil]; exact hO⟩
  rintro R' a0 a1 a2 a3 a4 z ⟨rfl, rfl, rfl, rfl, z1, k, rfl, k1, z2⟩ ih
  have hL := z1.lm T.1.1
  have Tz := T.fr z1.tm
  have l3 : fN z 3 = 384 := hL 3
  have l7 : fN z 7 = 384 := hL 7
  have l8 : fN z 8 = 6144 := hL 8
  obtain ⟨r1, r2, r3, r4, r5, -⟩ := Tz.1.2.1.2.2.1 f hf
  have e7 : rA z 7 ((128 : Int32) * 1 + nI f) = nI (fNm F f).length := by rw [i128m, rA_nI (by omega)]; exact r4
  unfold j_Mod_tellGroup_98
  rw [k_plM, k_plM, e7, l7]
  refine ⟨by rw [i128m]; exact vp_in_nI (by omega) (by decide), ?_⟩
  by_cases ck : k < (fNm F f).length
  · refine br_f (by (first | omega | (simp (disch := omega) only [Int32.le_iff_toInt_le, Int32.lt_iff_toInt_lt, z_eq, z_in, nI_toInt, z_cl, z_m1, z_sg, z_255, Int32.reduceToInt] <;> omega) | (simp only [Int32.le_iff_toInt_le, Int32.lt_iff_toInt_lt, z_eq, z_in, z_add, z_sub, z_mul, z_neg, z_nI, z_cl, z_sg, z_255, z_lit, Int32.reduceToInt] <;> omega))) ?_
    have hv := hN f hf k ck
    have ev : rA z 8 ((16 : Int32) * ((128 : Int32) * 1 + nI f) + nI k) = nI (uI ((fNm F f).getD k 0)) := by
      rw [i128m, show (16 : Int32) = nI 16 from rfl, nI_mul, nI_add, rA_nI (by omega), nI_uI]
      exact r5 k ck
    rw [ev, l8]
    refine ⟨by rw [i128m, show (16 : Int32) = nI 16 from rfl, nI_mul, nI_add]; exact vp_in_nI (by omega) (by decide), ?_⟩
    refine s_tell hL z2 (by rw [List.length_append, List.length_take]; omega) (uI_by hv) (fun z' f1 o1 => ?_)
    rw [nI_1]
    refine ih _ _ _ _ _ _ ⟨rfl, rfl, rfl, rfl, Fg.trans z1 f1, k + 1, rfl, ck, ?_⟩ (by rw [nI_clamp (by omega), nI_clamp (by omega)]; omega)
    rw [tk_sn (d := 0) (by omega), ← List.append_assoc]
    have : (tB (fNm F f)).getD k 0 = uI ((fNm F f).getD k 0) := by
      unfold tB
      rw [List.getD_eq_getElem?_getD, List.getElem?_map, List.getD_eq_getElem?_getD, List.getElem?_eq_getElem ck]
      rfl
    rw [this]
    exact o1
  · have ek : k = (tB (fNm F f)).length := by omega
    rw [ek, List.take_length] at z2
    refine br_t (by (first | omega | (simp (disch := omega) only [Int32.le_iff_toInt_le, Int32.lt_iff_toInt_lt, z_eq, z_in, nI_toInt, z_cl, z_m1, z_sg, z_255, Int32.reduceToInt] <;> omega) | (simp only [Int32.le_iff_toInt_le, Int32.lt_iff_toInt_lt, z_eq, z_in, z_add, z_sub, z_mul, z_neg, z_nI, z_cl, z_sg, z_255, z_lit, Int32.reduceToInt] <;> omega))) (s_tell (b := 58) hL z2 (by rw [List.length_append]; omega) (by decide) (fun z' f1 o1 => ?_))
    have hL' := f1.lm hL
    have l3' : fN z' 3 = 384 := hL' 3
    have Tz' := Tz.fr f1.tm
    have e3 : rA z' 3 ((128 : Int32) * 1 + nI f) = fKd F f := by rw [i128m, rA_nI (by omega)]; exact (Tz'.1.2.1.2.2.1 f hf).1
    rw [k_plM, e3, l3']
    refine ⟨by rw [i128m]; exact vp_in_nI (by omega) (by decide), ?_⟩
    have ez : B ++ tB (fNm F f) ++ [58] = B ++ (tB (fNm F f) ++ [58]) := List.append_assoc ..
    by_cases hk : fKd F f = 2
    · unfold fldB at hB p
      rw [if_pos hk] at hB p
      refine bn_t hk ?_
      unfold j_Mod_tellGroup_164
      refine br_f (by decide) (s_tell (b := 91) hL' o1 (by simp only [List.length_append]; omega) (by decide) (fun z'' f2 o2 => ?_))
      have eq : B ++ tB (fNm F f) ++ [58] ++ [91] ++ (if fKd F f = 2 then tlR (tlG vlB F W D) vlB F f (gdc F W f) (S (gdc F W f)).length S ++ [93] else tlO (tlG vlB F W D) vlB F f (gdc F W f) S) = B ++ (tB (fNm F f) ++ [58] ++ 91 :: (tlR (tlG vlB F W D) vlB F f (gdc F W f) (S (gdc F W f)).length S ++ [93])) := by
        rw [if_pos hk]
        simp only [List.append_assoc, List.cons_append, List.nil_append]
      refine s_vals hw ho hf hg hgd (Tz'.fr f2.tm) hD (by rw [if_pos hk]) o2 (((hC.tl z1).tl f1).tl f2) (by rw [eq]; exact hB) (fun w w1 w2 w3 w4 => p w (Fg.trans (Fg.trans (Fg.trans z1.tm f1.tm) f2.tm) w1) (by rw [eq] at w2; exact w2) w3 ((((ElM.tl z1).trans (ElM.tl f1)).trans (ElM.tl f2)).trans w4))
    · unfold fldB at hB p
      rw [if_neg hk] at hB p
      refine bn_f hk ?_
      unfold j_Mod_tellGroup_164
      have eq : B ++ tB (fNm F f) ++ [58] ++ (if fKd F f = 2 then tlR (tlG vlB F W D) vlB F f (gdc F W f) (S (gdc F W f)).length S ++ [93] else tlO (tlG vlB F W D) vlB F f (gdc F W f) S) = B ++ (tB (fNm F f) ++ [58] ++ tlO (tlG vlB F W D) vlB F f (gdc F W f) S) := by
        rw [if_neg hk]
        simp only [List.append_assoc, List.cons_append, List.nil_append]
      refine br_t rfl (s_vals hw ho hf hg hgd Tz' hD (by rw [if_neg hk]) o1 ((hC.tl z1).tl f1) (by rw [eq]; exact hB) (fun w w1 w2 w3 w4 => p w (Fg.trans (Fg.trans z1.tm f1.tm) w1) (by rw [eq] at w2; exact w2) w3 (((ElM.tl z1).trans (ElM.tl f1)).trans w4)))
/-- children of a group -/
theorem kid_one {h l : Nat} (hw : WfS F) (hf : f < F.length) (hh : h < F.length) (hl : l < F.length) (e1 : fPa F f = g) (e2 : fPa F h = g) (d1 : dsc F f l) (d2 : dsc F h l) : h = f := by
  have h128 := hw.1
  have key : ∀ a b, a < b → b < F.length → fPa F a = g → fPa F b = g → dsc F a l → dsc F b l → False := fun a b ab hb ea eb da db => by
    have m1 := (dsc_iff hw (by omega) hl).mp da
    have m2 := (dsc_iff hw hb hl).mp db
    have ad : dsc F a b := (dsc_iff hw (by omega) hb).mpr ⟨by omega, by omega⟩
    obtain ⟨w, w1, w2, w3⟩ := dsc_pa hw hb ad (by omega)
    have wa := dsc_le hw (by omega) w3
    rcases hw.2.2.1.2 a (by omega) with z | ⟨v, v1, v2⟩
    · rw [ea, ← eb, w2] at z
      exact absurd z (nI_nm1 (by omega))
    · rw [ea, ← eb, w2] at v2
      have := nI_inj (by omega) (by omega) v2
      omega
  rcases Nat.lt_trichotomy h f with z | z | z
  · exact (key h f z hf e2 e1 d2 d1).elim
  · exact z
  · exact (key f h z hh e1 e2 d1 d2).elim
theorem kid_ex (hw : WfS F) : ∀ l, l < F.length → inG F g l → g ≠ nI l → ∃ h, h < F.length ∧ fPa F h = g ∧ dsc F h l := by
  intro l
  induction l using Nat.strongRecOn with
  | ind l ih =>
    intro hl hi hn
    have h128 := hw.1
    rcases hi with e | ⟨f, f1, f2, f3⟩
    · rcases hw.2.2.1.2 l hl with z | ⟨v, v1, v2⟩
      · exact ⟨l, hl, by rw [z, e], dsc_self hw hl⟩
      · obtain ⟨h, h1, h2, h3⟩ := ih v v1 (by omega) (Or.inl e) (by rw [e]; exact fun z => nI_nm1 (by omega) z.symm)
        exact ⟨h, h1, h2, dsc_in hw hl v1 v2 h3⟩
    · obtain ⟨v, v1, v2, v3⟩ := dsc_pa hw hl f3 (fun z => hn (by rw [f2, z]))
      by_cases ev : v = f
      · exact ⟨l, hl, by rw [v2, ev, f2], dsc_self hw hl⟩
      · obtain ⟨h, h1, h2, h3⟩ := ih v v1 (by omega) (Or.inr ⟨f, f1, f2, v3⟩) (fun z => ev (by rw [f2] at z; exact (nI_inj (by omega) (by omega) z).symm))
        exact ⟨h, h1, h2, dsc_in hw hl v1 v2 h3⟩
/-- the cursors where a field comes -/
def CuF (x y : St) (F : List SFd) (W : Nat → Bool) (e : Nat → Nat) (S : Nat → List SEn) (g : Int32) (f : Nat) : Prop := (∀ c, c < ncol F → W c = true → inG F g (lfC F c) → (∀ h, h < f → fPa F h = g → ¬ dsc F h (lfC F c)) → fA y 76 c = nI (e c - (S c).length)) ∧ (∀ c, c < ncol F → W c = true → (∃ h, h < f ∧ fPa F h = g ∧ dsc F h (lfC F c)) → fA y 76 c = nI (e c - (rst (rgF F g) (S c)).length)) ∧ ElM x y F W g
theorem CuF.skip (h : CuF x y F W e S g f) (hs : fPa F f = g → gdL F W f = []) : CuF x y F W e S g (f + 1) := by
  obtain ⟨h1, h2, h3⟩ := h
  refine ⟨fun c hc wc hi hn => h1 c hc wc hi (fun h hh => hn h (by omega)), fun c hc wc ⟨h, k1, k2, k3⟩ => h2 c hc wc ⟨h, ?_, k2, k3⟩, h3⟩
  rcases Nat.lt_or_ge h f with z | z
  · exact z
  · have ez : h = f := by omega
    subst ez
    have mem : c ∈ gdL F W h := List.mem_filter.mpr ⟨List.mem_range.mpr hc, by rw [Bool.and_eq_true]; exact ⟨wc, decide_eq_true k3⟩⟩
    rw [hs k2] at mem
    exact absurd mem (by simp)
theorem CuF.step {z : St} (hw : WfS F) (hf : f < F.length) (hg : fPa F f = g) (h : CuF x y F W e S g f) (k1 : CuM z F W e (fun c => rst (rgF F g) (S c)) (nI f)) (k2 : ElM y z F W (nI f)) : CuF x z F W e S g (f + 1) := by
  have h128 := hw.1
  obtain ⟨h1, h2, h3⟩ := h
  refine ⟨fun c hc wc hi hn => ?_, fun c hc wc ⟨h, a1, a2, a3⟩ => ?_, fun c hc hn => ?_⟩
  · rw [k2 c hc (fun z => hn f (Nat.lt_succ_self _) hg ((inG_f hf h128).mp z.2))]
    exact h1 c hc wc hi (fun h hh => hn h (by omega))
  · by_cases ez : h = f
    · exact k1 c hc wc ((inG_f hf h128).mpr (by rw [← ez]; exact a3))
    · rw [k2 c hc (fun z => ez (kid_one hw hf (by omega) (lfC_ok hc).1 hg a2 ((inG_f hf h128).mp z.2) a3))]
      exact h2 c hc wc ⟨h, by omega, a2, a3⟩
  · rw [k2 c hc (fun z => hn ⟨z.1, by rw [← hg]; exact inG_up hw hf (lfC_ok hc).1 ((inG_f hf h128).mp z.2)⟩)]
    exact h3 c hc hn
theorem CuF.at (hw : WfS F) (hf : f < F.length) (hg : fPa F f = g) (h : CuF x y F W e S g f) : CuM y F W e S (nI f) := fun c hc wc hi => by
  have dc := (inG_f hf hw.1).mp hi
  exact h.1 c hc wc (by rw [← hg]; exact inG_up hw hf (lfC_ok hc).1 dc) (fun h hh e2 d2 => by
    have := kid_one hw hf (by omega) (lfC_ok hc).1 hg e2 dc d2
    omega)
theorem tellGroup_of (hw : WfS F) (hN : NmS F) (ho : okTO F W Q e q D d) : okTG F W Q e q (D + 1) (d + 1) := by
  intro post x S g B T hgr hD hO hB hC p
  have h128 := hw.1
  have h64 := hw.2.1
  show wb_Mod_tellGroup post (wr_Mod_tellGroup d).1 (wr_Mod_tellGroup d).2 g x
  unfold wb_Mod_tellGroup
  have wh : tlG vlB F W (D + 1) g S = 123 :: (tlF (tlG vlB F W D) vlB F W g S F.length 0 false ++ [125]) := rfl
  have hBl := hB
  rw [List.length_append] at hBl
  refine s_tell (b := 123) T.1.1 hO (by omega) (by decide) (fun y0 f0 o0 => ?_)
  refine lp_Mod_tellGroup_10 (fun a0 a1 a2 y => g = a0 ∧ FrTm x y ∧ ∃ f sm P, nI f = a2 ∧ f ≤ F.length ∧ (a1 = if sm = true then 1 else 0) ∧ OutM y P ∧ P ++ (tlF (tlG vlB F W D) vlB F W g S (F.length - f) f sm ++ [125]) = B ++ tlG vlB F W (D + 1) g S ∧ CuF x y F W e S g f) (fun _ _ a2 _ => F.length - a2.toNatClampNeg) ?_ _ _ _ _ ⟨rfl, f0.tm, 0, false, _, rfl, Nat.zero_le _, rfl, o0, by rw [wh, Nat.sub_zero]; simp only [List.append_assoc, List.cons_append, List.nil_append], ?_⟩
  rotate_left
  · exact ⟨fun c hc wc hi _ => by rw [f0.aa (show ¬ 76 = 75 by decide)]; exact hC c hc wc hi, fun c hc wc ⟨h, h1, _⟩ => absurd h1 (Nat.not_lt_zero _), ElM.tl f0⟩
  clear f0 o0
  clear y0
  rintro R a0 a1 a2 y ⟨rfl, y1, f, sm, P, rfl, k1, ha1, y2, y3, y4⟩ ih
  have Ty := T.fr y1
  have hL := Ty.1.1
  have Ry := Ty.1.2.1
  have l9 : fN y 9 = 3 := hL 9
  have l5 : fN y 5 = 384 := hL 5
  have l76 : fN y 76 = 64 := hL 76
  have l59 : fN y 59 = 10000 := hL 59
  have e9 : rA y 9 1 = nI F.length := by rw [show (1 : Int32) = nI 1 from rfl, rA_nI (by decide)]; exact Ry.1
  have ln := congrArg List.length y3
  have l125 : ([125] : List Nat).length = 1 := rfl
  unfold j_Mod_tellGroup_10
  rw [e9, l9]
  refine ⟨vp_in_nI (n := 1) (by decide) (by decide), ?_⟩
  by_cases cf : f < F.length
  rotate_left
  · have ef : f = F.length := by omega
    subst ef
    rw [Nat.sub_self, show tlF (tlG vlB F W D) vlB F W g S 0 F.length sm = [] from rfl, List.nil_append] at y3 ln
    simp only [List.length_append] at ln
    refine br_t (by (first | omega | (simp (disch := omega) only [Int32.le_iff_toInt_le, Int32.lt_iff_toInt_lt, z_eq, z_in, nI_toInt, z_cl, z_m1, z_sg, z_255, Int32.reduceToInt] <;> omega) | (simp only [Int32.le_iff_toInt_le, Int32.lt_iff_toInt_lt, z_eq, z_in, z_add, z_sub, z_mul, z_neg, z_nI, z_cl, z_sg, z_255, z_lit, Int32.reduceToInt] <;> omega))) (s_tell (b := 125) hL y2 (by omega) (by decide) (fun z f1 o1 => ?_))
    rw [y3] at o1
    refine p z (Fg.trans y1 f1.tm) o1 (fun c hc wc hi => ?_) (y4.2.2.trans (ElM.tl f1))
    rw [f1.aa (show ¬ 76 = 75 by decide)]
    refine y4.2.1 c hc wc (kid_ex hw _ (lfC_ok hc).1 hi (fun w => ?_))
    rcases hgr with z' | ⟨f', z1, z2, z3⟩
    · rw [z'] at w; exact nI_nm1 (by have := (lfC_ok hc).1; omega) w.symm
    · rw [z2] at w
      have := nI_inj (by omega) (by have := (lfC_ok hc).1; omega) w
      exact (lfC_ok hc).2.1 (by rw [← this]; exact z3)
  · obtain ⟨m, hm⟩ : ∃ m, F.length - f = m + 1 := ⟨F.length - f - 1, by omega⟩
    have e5 : rA y 5 ((128 : Int32) * 1 + nI f) = fPa F f := by rw [i128m, rA_nI (by omega)]; exact (Ry.2.2.1 f cf).2.2.1
    have un : tlF (tlG vlB F W D) vlB F W g S (m + 1) f sm = if fPa F f ≠ g ∨ gdL F W f = [] ∨ hdD (S (gdc F W f)) < dG F (nI f) then tlF (tlG vlB F W D) vlB F W g S m (f + 1) sm else (if sm then [44] else []) ++ tB (fNm F f) ++ [58] ++ (if fKd F f = 2 then 91 :: (tlR (tlG vlB F W D) vlB F f (gdc F W f) (S (gdc F W f)).length S ++ [93]) else tlO (tlG vlB F W D) vlB F f (gdc F W f) S) ++ tlF (tlG vlB F W D) vlB F W g S m (f + 1) true := rfl
    rw [hm, un] at y3 ln
    have hm2 : F.length - (f + 1) = m := by omega
    have dec : F.length - (nI (f + 1)).toNatClampNeg < F.length - (nI f).toNatClampNeg := by rw [nI_clamp (by omega), nI_clamp (by omega)]; omega
    rw [k_plM, e5, l5]
    refine br_f (by (first | omega | (simp (disch := omega) only [Int32.le_iff_toInt_le, Int32.lt_iff_toInt_lt, z_eq, z_in, nI_toInt, z_cl, z_m1, z_sg, z_255, Int32.reduceToInt] <;> omega) | (simp only [Int32.le_iff_toInt_le, Int32.lt_iff_toInt_lt, z_eq, z_in, z_add, z_sub, z_mul, z_neg, z_nI, z_cl, z_sg, z_255, z_lit, Int32.reduceToInt] <;> omega))) ⟨by rw [i128m]; exact vp_in_nI (by omega) (by decide), ?_⟩
    -- nothing is written of it
    have skip : (fPa F f ≠ g ∨ gdL F W f = [] ∨ hdD (S (gdc F W f)) < dG F (nI f)) → ∀ z, FrTm x z → OutM z P → CuF x z F W e S g (f + 1) → j_Mod_tellGroup_255 post (wr_Mod_tellGroup d).1 (wr_Mod_tellGroup d).2 R g a1 (nI f) z := fun hs z z1 z2 z3 => by
      rw [if_pos hs] at y3
      unfold j_Mod_tellGroup_255
      rw [nI_1]
      exact ih _ _ _ _ ⟨rfl, z1, f + 1, sm, P, rfl, cf, ha1, z2, by rw [hm2]; exact y3, z3⟩ dec
    by_cases cg : fPa F f = g
    rotate_left
    · exact br_f cg (skip (Or.inl cg) y y1 y2 (y4.skip (fun z => absurd z cg)))
    refine br_t cg (s_columnIn hL hw Ry Ty.1.2.2.1 cf (fun hgd => ?_) (fun hgd => ?_))
    rotate_left
    · exact bn_t rfl (skip (Or.inr (Or.inl hgd)) y y1 y2 (y4.skip (fun _ => hgd)))
    obtain ⟨g1, g2, g3⟩ := gdc_ok hgd
    have ig : inG F g (lfC F (gdc F W f)) := by rw [← cg]; exact inG_up hw cf (lfC_ok g1).1 g3
    obtain ⟨b1, b2, b3, b4, -, b5, -, -, b6⟩ := Ty.at hw g1 g2 ig
    have cu := y4.at hw cf cg
    have cuc : rA y 76 (nI (gdc F W f)) = nI (e (gdc F W f) - (S (gdc F W f)).length) := by rw [rA_nI (by omega)]; exact cu _ g1 g2 ((inG_f cf h128).mpr g3)
    have e59 : rA y 59 (nI (e (gdc F W f) - (S (gdc F W f)).length)) = nI (hdD (S (gdc F W f))) := by rw [rA_nI (by omega)]; exact b5
    have d17 : dG F (nI f) ≤ 17 := dG_le hw (Or.inr ⟨f, cf, rfl⟩)
    rw [cuc, e59, l76, l59]
    refine bn_f (nI_nm1 (by omega)) ⟨vp_in_nI (by omega) (by decide), vp_in_nI (by omega) (by decide), s_lev1 hL hw Ry cf ?_⟩
    rw [if_pos rfl]
    by_cases cp : dG F (nI f) ≤ hdD (S (gdc F W f))
    · have hn : ¬ (fPa F f ≠ g ∨ gdL F W f = [] ∨ hdD (S (gdc F W f)) < dG F (nI f)) := by
        rintro (z | z | z)
        · exact z cg
        · exact hgd z
        · omega
      rw [if_neg hn] at y3 ln
      have Tf := Ty.kid hw cf cg hgd cp
      have hDf : 17 ≤ upS wOne (fPa F) (nI f) + D := by
        rw [upS_at (w := wOne) hw.2.2.1 cf, cg]
        show 17 ≤ 1 + upS wOne (fPa F) g + D
        omega
      refine br_t (by (first | omega | (simp (disch := omega) only [Int32.le_iff_toInt_le, Int32.lt_iff_toInt_lt, z_eq, z_in, nI_toInt, z_cl, z_m1, z_sg, z_255, Int32.reduceToInt] <;> omega) | (simp only [Int32.le_iff_toInt_le, Int32.lt_iff_toInt_lt, z_eq, z_in, z_add, z_sub, z_mul, z_neg, z_nI, z_cl, z_sg, z_255, z_lit, Int32.reduceToInt] <;> omega))) ?_
      -- with what comes before it
      have go : ∀ z, FrTl y z → OutM z (P ++ (if sm then [44] else [])) → j_Mod_tellGroup_93 post (wr_Mod_tellGroup d).1 (wr_Mod_tellGroup d).2 R g a1 (nI f) (nI (gdc F W f)) z := fun z z1 z2 => by
        have eq : P ++ (if sm then [44] else []) ++ fldB F W D f S ++ (tlF (tlG vlB F W D) vlB F W g S m (f + 1) true ++ [125]) = B ++ tlG vlB F W (D + 1) g S := by
          rw [← y3]
          unfold fldB
          simp only [List.append_assoc]
        refine s_field hw hN ho cf cg hgd (Tf.fr z1.tm) hDf z2 (cu.tl z1) ?_ (fun w w1 w2 w3 w4 => ih _ _ _ _ ⟨rfl, Fg.trans (Fg.trans y1 z1.tm) w1, f + 1, true, _, rfl, cf, rfl, w2, by rw [hm2]; exact eq, y4.step hw cf cg w3 ((ElM.tl z1).trans w4)⟩ dec)
        have := congrArg List.length eq
        rw [List.length_append] at this
        have hB' := hB
        omega
      cases sm with
      | false =>
        have ha1 : a1 = 0 := ha1
        refine br_t ha1 (go y (Fg.refl y) ?_)
        show OutM y (P ++ [])
        rw [List.append_nil]
        exact y2
      | true =>
        have ha1 : a1 = 1 := ha1
        refine br_f (by rw [ha1]; decide) (s_tell (b := 44) hL y2 ?_ (by decide) (fun z f1 o1 => go z f1 o1))
        simp only [List.length_append] at ln
        omega
    · refine br_f (by (first | omega | (simp (disch := omega) only [Int32.le_iff_toInt_le, Int32.lt_iff_toInt_lt, z_eq, z_in, nI_toInt, z_cl, z_m1, z_sg, z_255, Int32.reduceToInt] <;> omega) | (simp only [Int32.le_iff_toInt_le, Int32.lt_iff_toInt_lt, z_eq, z_in, z_add, z_sub, z_mul, z_neg, z_nI, z_cl, z_sg, z_255, z_lit, Int32.reduceToInt] <;> omega))) (s_pass hL hw Ry Ty.1.2.2.1 cf (fun z z1 z2 => ?_))
      have zt : FrTm y z := z1.mono (fun _ _ h => h.elim) (fun _ _ h => h) (fun _ _ h => h) (fun _ h => Or.inr h) (fun _ h => h)
      refine skip (Or.inr (Or.inr (by omega))) z (Fg.trans y1 zt) ⟨by rw [z1.ii id]; exact y2.1, y2.2.1, fun i h1 h2 => by rw [z1.aa (show ¬ 75 = 76 by decide)]; exact y2.2.2 i h1 h2⟩ (y4.step hw cf cg (fun c hc wc hi => ?_) (fun c hc hn => ?_))
      · have dc := (inG_f cf h128).mp hi
        have icg : inG F g (lfC F c) := by rw [← cg]; exact inG_up hw cf (lfC_ok hc).1 dc
        obtain ⟨v1, v2, v3, v4, -⟩ := Ty.at hw hc wc icg
        show fA z 76 c = nI (e c - (rst (rgF F g) (S c)).length)
        rw [z2 c hc, if_pos ⟨wc, dc⟩, cu c hc wc hi, T.2.2.1.gone hw T.2.2.2.1 cf cg g1 g2 g3 (by omega) hc wc dc, List.length_drop, nI_1]
        congr 1
        omega
      · rw [z2 c hc, if_neg (fun w => hn ⟨w.1, (inG_f cf h128).mpr w.2⟩)]
/-- a group, however deep -/
theorem tellGroup_ok (hw : WfS F) (hN : NmS F) : ∀ D d, 2 * D ≤ d → okTG F W Q e q D d := by
  intro D
  induction D with
  | zero =>
    intro d _ post x S g B T hgr hD
    exfalso
    have : upS wOne (fPa F) g ≤ 16 := by
      rcases hgr with z | ⟨f, f1, f2, f3⟩
      · rw [z]; rw [show upS wOne (fPa F) (-1) = 0 from rfl]; exact Nat.zero_le _
      · rw [f2]; exact hw.2.2.2.2.2.1 f f1 f3
    omega
  | succ D ih =>
    intro d hd
    obtain ⟨d', rfl⟩ : ∃ d', d = d' + 1 + 1 := ⟨d - 2, by omega⟩
    exact tellGroup_of hw hN (tellOne_of hw (ih d' (by omega)))
end
