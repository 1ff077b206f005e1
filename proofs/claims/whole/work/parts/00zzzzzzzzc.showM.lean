/-! a record is told, model -/
def shO (F : List SFd) (G : List Nat) (CK : List (List PgW)) (W : Nat → Bool) (r : Nat) : List Nat := tlG vlB F W 17 (-1) (recS F CK (rgO G r) (r - smN (G.take (rgO G r))))
abbrev FrTr (x y : St) : Prop := Fg (fun o k => o = 0 ∧ k = 113) no2 no2 (fun a => a = 75 ∨ a = 76 ∨ a = 77) no1 x y
theorem smC_all {F : List SFd} {CK : List (List PgW)} {g : Nat} : ∀ N, ncol F * g + N ≤ CK.length → smC (fun _ => true) (fun c => (ckG F CK g c).length) N + (enA (CK.take (ncol F * g))).length = (enA (CK.take (ncol F * g + N))).length := by
  intro N
  induction N with
  | zero => intro _; exact Nat.zero_add _
  | succ N ih =>
    intro h
    have := ih (by omega)
    show smC (fun _ => true) (fun c => (ckG F CK g c).length) N + (if true = true then (ckG F CK g N).length else 0) + _ = _
    rw [if_pos rfl, show ncol F * g + (N + 1) = ncol F * g + N + 1 from rfl, tk_sn (d := []) (show ncol F * g + N < CK.length by omega), enA_add, List.length_append]
    show _ = _ + (ckG F CK g N).length
    omega
theorem enA_tk {CK : List (List PgW)} (w : Nat) : (enA (CK.take w)).length ≤ (enA CK).length := by
  have : enA CK = enA (CK.take w) ++ enA (CK.drop w) := by
    unfold enA
    rw [← List.flatten_append, ← List.map_append, List.take_append_drop]
  rw [this, List.length_append]
  omega
section
variable {x y : St} {F : List SFd} {G : List Nat} {CK : List (List PgW)} {Q : List PV} {g : Nat} {W : Nat → Bool} {K0 : List ChT}
theorem shO_len {j : Nat} (hw : WfS F) (h : OkO F G CK) (hl : CK.length = ncol F * G.length) (he : (enA CK).length ≤ 10000) (hg : g < G.length) (hj : j < G.getD g 0) : (tlG vlB F W 17 (-1) (recS F CK g j)).length ≤ 20000000 := by
  obtain ⟨a, b, -⟩ := recS_ok hw h hl hg hj W
  have t := tlG_len hw 17 (-1) (recS F CK g j) a b
  have hh : ncol F * g + ncol F ≤ CK.length := by
    rw [hl, ← Nat.mul_succ]
    exact Nat.mul_le_mul_left _ hg
  have s1 := smC_all (F := F) (CK := CK) (g := g) (ncol F) hh
  have s2 := enA_tk (CK := CK) (ncol F * g + ncol F)
  have s3 : smC (gB F W (-1) 0) (dlt (rgF F (-1)) (recS F CK g j)) (ncol F) ≤ smC (fun _ => true) (fun c => (ckG F CK g c).length) (ncol F) := by
    refine smC_le _ (fun c hc _ => ⟨rfl, ?_⟩)
    obtain ⟨k, k1, k2⟩ := rwL_drop (ckG F CK g c) j
    show (rwL (ckG F CK g c) j).length - _ ≤ (ckG F CK g c).length
    rw [k1, List.length_drop]
    omega
  have s4 : smC (gB F W (-1) 0) (dlt (rgF F (-1)) (recS F CK g j)) (ncol F) ≤ 10000 := by omega
  have := Nat.mul_le_mul_left (1030 + 23 * 17) s4
  omega
theorem RdM.fr (H : RdM x F G CK Q) {I : Nat → Nat → Prop} {A : Nat → Prop} (f : Fg I no2 no2 A no1 x y) (h93 : ¬ I 0 93) (h94 : ¬ I 0 94) (ha : ∀ r, r ≤ 74 → ¬ A r) : RdM y F G CK Q := by
  obtain ⟨h1, h2, h3, h4, h5, h6, h7, h8, h9, h10⟩ := H
  refine ⟨fun o => (f.len o).trans (h1 o), RepM_cgA h2 (fun a a1 a2 => f.aa (ha a (by omega))), fun g hg => by rw [f.aa (ha 53 (by decide))]; exact h3 g hg, h4, h5, h6, fun w hw => by rw [f.aa (ha 65 (by decide)), f.aa (ha 61 (by decide))]; exact h7 w hw, h8, h9.cg (f.ii h93) (f.ii h94) (f.ll id) (f.aa (ha 55 (by decide))) (f.aa (ha 56 (by decide))) (f.aa (ha 57 (by decide))), fun i hi => ?_⟩
  have := (h10 i hi).cg (y := y) (Z := []) (fun r a b => by rw [f.aa (ha r (by omega))])
  rw [List.append_nil] at this
  exact this
theorem s_tellRecord {post : Int32 → St → Prop} {r : Nat} (hw : WfS F) (hN : NmS F) (H : RdM x F G CK Q) (h : OkO F G CK) (hl : CK.length = ncol F * G.length) (hr : r < smN G) (hW : WtM x W (ncol F)) (h0 : fI x 0 113 = 0)
    (pm : 100000 < (shO F G CK W r).length → ∀ y, FrTr x y → fI y 0 113 = 0 → post (-1) y)
    (pk : (shO F G CK W r).length ≤ 100000 → ∀ y, FrTr x y → OutM y (shO F G CK W r) → post (nI (shO F G CK W r).length) y) : wp_Mod_tellRecord post (nI r) x := by
  unfold wp_Mod_tellRecord
  refine s_goTo hw H h hl hr (fun y y1 g1 g2 g3 y2 => ?_)
  have Hy : RdM y F G CK Q := H.fr y1 id id (fun r hr => by omega)
  unfold shO at pm pk
  generalize rgO G r = g at *
  generalize r - smN (G.take g) = j at *
  obtain ⟨J1, J2, J3⟩ := recS_ok hw h hl g1 g3 W
  have le := shO_len (W := W) hw h hl H.2.2.2.2.2.2.2.1 g1 g3
  have T : TgM y F W Q (eC F CK g) (fun c => (rst 0 (recS F CK g j c)).length) (recS F CK g j) (-1) := by
    refine ⟨⟨Hy.1, Hy.2.1, fun c hc => by rw [y1.aa (by decide)]; exact hW c hc, Hy.2.2.2.2.2.2.2.2.1, fun c hc wc => ?_⟩, fun c hc wc => ?_, J1, J2, J3⟩
    · obtain ⟨lw, -⟩ := h.at hl g1 hc
      have rp := (((Hy.rp hw h hl g1 hc).row j).nx).1
      exact ⟨rp, (eC_le Hy.2.2.2.2.2.2.2.1 lw).1, (y2 c hc).2⟩
    · obtain ⟨lw, -⟩ := h.at hl g1 hc
      have le := eC_le Hy.2.2.2.2.2.2.2.1 lw
      obtain ⟨k, k1, k2⟩ := rwL_drop (ckG F CK g c) j
      show (rwL (ckG F CK g c) j).length ≤ _ ∧ ∀ i, i < (rwL (ckG F CK g c) j).length → EnO y F Q (_ - (rwL (ckG F CK g c) j).length + i) ((rwL (ckG F CK g c) j).getD i en0)
      rw [k1, List.length_drop]
      refine ⟨by unfold eC; omega, fun i hi => ?_⟩
      rw [getD_dr, show eC F CK g c - ((ckG F CK g c).length - k) + i = (enA (CK.take (ncol F * g + c))).length + (k + i) from by unfold eC; omega]
      have := Hy.2.2.2.2.2.2.2.2.2 ((enA (CK.take (ncol F * g + c))).length + (k + i)) (by have := le.2; unfold eC at this; omega)
      rw [enA_in lw (by omega)] at this
      exact this
  refine tellGroup_ok hw hN 17 200 (by decide) _ y (recS F CK g j) (-1) [] T (Or.inl rfl) (by exact Nat.le_add_left _ _) ⟨by rw [y1.ii id]; exact h0, fun b hb => absurd hb (by simp), fun i hi => absurd hi (Nat.not_lt_zero _)⟩ (by rw [List.nil_append]; omega) (fun c hc wc _ => (y2 c hc).1) (fun z z1 z2 _ _ => ?_)
  rw [List.nil_append] at z2
  have fz : FrTr x z := Fg.trans (y1.mono (fun _ _ h => h.elim) (fun _ _ h => h) (fun _ _ h => h) (fun _ h => Or.inr h) (fun _ h => h)) (z1.mono (fun _ _ h => h) (fun _ _ h => h) (fun _ _ h => h) (fun _ h => h.elim Or.inl (fun w => Or.inr (Or.inl w))) (fun _ h => h))
  have l75 : fN z 75 = 100000 := (fz.len 75).trans (H.1 75)
  rw [l75, z2.1]
  by_cases c : 100000 < (tlG vlB F W 17 (-1) (recS F CK g j)).length
  · refine br_t (by (first | omega | (simp (disch := omega) only [Int32.le_iff_toInt_le, Int32.lt_iff_toInt_lt, z_eq, z_in, nI_toInt, z_cl, z_m1, z_sg, z_255, Int32.reduceToInt] <;> omega) | (simp only [Int32.le_iff_toInt_le, Int32.lt_iff_toInt_lt, z_eq, z_in, z_add, z_sub, z_mul, z_neg, z_nI, z_cl, z_sg, z_255, z_lit, Int32.reduceToInt] <;> omega))) (nm_e (pm c _ (Fg.trans fz (Fg.i ⟨rfl, rfl⟩)) gI_at))
  · exact br_f (by (first | omega | (simp (disch := omega) only [Int32.le_iff_toInt_le, Int32.lt_iff_toInt_lt, z_eq, z_in, nI_toInt, z_cl, z_m1, z_sg, z_255, Int32.reduceToInt] <;> omega) | (simp only [Int32.le_iff_toInt_le, Int32.lt_iff_toInt_lt, z_eq, z_in, z_add, z_sub, z_mul, z_neg, z_nI, z_cl, z_sg, z_255, z_lit, Int32.reduceToInt] <;> omega))) (pk (by omega) z fz z2)
theorem OpM.rd {rows : Nat} {K : List ChT} (hL : LM x) (h : OpM x F rows G K CK) (hk : KtO F G K CK) : ∃ Q, RdM x F G CK Q := by
  obtain ⟨h1, h2, h3, h4, h5, h6, h7, h8, h9, h10, h11, h12, h13, Q, q1, q2, q3, q4, q5, q6, q7⟩ := h
  refine ⟨Q, hL, h1, fun g hg => (h9 g hg).1, h8, by omega, by omega, fun w hw => ⟨q3 w hw, ?_⟩, q4, q2.1, q2.2.2.2.1⟩
  rw [(q1 w (by omega)).2.2.1, hk.len hw]
abbrev FrShw (x y : St) : Prop := Fg (fun o k => o = 0 ∧ (k = 113 ∨ k = 0)) no2 no2 (fun a => a = 75 ∨ a = 76 ∨ a = 77 ∨ a = 78) no1 x y
theorem s_show {post : Int32 → St → Prop} {l1 : Int32} {o : Bool} (hL : LM x) (h82 : fI x 0 82 = if o = true then 1 else 0)
    (hO : o = true → OpM x F (smN G) G K0 CK ∧ KtO F G K0 CK ∧ OkO F G CK ∧ NmS F)
    (pn : ¬ (o = true ∧ 0 ≤ l1 ∧ l1 < nI (smN G)) → ∀ y, FrShw x y → fI y 0 0 = 0 → fI y 0 113 = 0 → post (-1) y)
    (pm : ∀ r, o = true → l1 = nI r → r < smN G → 100000 < (shO F G CK (fun _ => true) r).length → ∀ y, FrShw x y → fI y 0 0 = 0 → fI y 0 113 = 0 → post (-1) y)
    (pk : ∀ r, o = true → l1 = nI r → r < smN G → (shO F G CK (fun _ => true) r).length ≤ 100000 → ∀ y, FrShw x y → fI y 0 0 = 0 → OutM y (shO F G CK (fun _ => true) r) → post (nI (shO F G CK (fun _ => true) r).length) y) : wp_Mod_show post l1 x := by
  unfold wp_Mod_show
  refine nm_e (nm_e ?_)
  have f1 : FrShw x (setI (setI x 0 0 0) 0 113 0) := Fg.trans (Fg.i ⟨rfl, Or.inr rfl⟩) (Fg.i ⟨rfl, Or.inl rfl⟩)
  have a0 : fI (setI (setI x 0 0 0) 0 113 0) 0 0 = 0 := (gI_ne (by decide)).trans gI_at
  have a113 : fI (setI (setI x 0 0 0) 0 113 0) 0 113 = 0 := gI_at
  generalize setI (setI x 0 0 0) 0 113 0 = a at *
  have no : ¬ (o = true ∧ 0 ≤ l1 ∧ l1 < nI (smN G)) → j_Mod_show_29 post l1 a := fun hn => pn hn a f1 a0 a113
  rw [show fI a 0 82 = fI x 0 82 from f1.ii (by decide), h82]
  cases o with
  | false => exact br_t rfl (no (fun z => absurd z.1 (by decide)))
  | true =>
    obtain ⟨O1, O2, O3, O4⟩ := hO rfl
    obtain ⟨Q, H⟩ := O1.rd hL O2
    obtain ⟨p1, hw, -, -, p5, p6, -, -, -, -, p11, -, p13, -⟩ := O1
    rw [show fI a 0 84 = nI (smN G) from (f1.ii (by decide)).trans p5]
    refine br_f (by decide) ?_
    by_cases c1 : l1 < 0
    · exact br_t c1 (no (fun z => absurd c1 (Int32.not_lt.mpr z.2.1)))
    refine br_f c1 ?_
    by_cases c2 : l1 < nI (smN G)
    rotate_left
    · exact br_f c2 (no (fun z => c2 z.2.2))
    refine br_t c2 ?_
    obtain ⟨r, rfl, hr⟩ : ∃ r, l1 = nI r ∧ r < smN G := by
      obtain ⟨n, n1, rfl⟩ := wb_of32 l1
      have n2 : n < 2 ^ 31 := by
        rcases Nat.lt_or_ge n (2 ^ 31) with z | z
        · exact z
        · exact absurd (nI_big z n1) c1
      refine ⟨n, rfl, ?_⟩
      clear no pn pm pk
      have s31 : smN G < 2 ^ 31 := by omega
      rcases Nat.lt_or_ge n (smN G) with z | z
      · exact z
      · exact absurd c2 (by (first | omega | (simp (disch := omega) only [Int32.le_iff_toInt_le, Int32.lt_iff_toInt_lt, z_eq, z_in, nI_toInt, z_cl, z_m1, z_sg, z_255, Int32.reduceToInt] <;> omega) | (simp only [Int32.le_iff_toInt_le, Int32.lt_iff_toInt_lt, z_eq, z_in, z_add, z_sub, z_mul, z_neg, z_nI, z_cl, z_sg, z_255, z_lit, Int32.reduceToInt] <;> omega)))
    have h64 := hw.2.1
    have key := lp_Mod_show_33 (post := post) (fun a0 a1 y => nI r = a0 ∧ Fg no2 no2 no2 (fun a => a = 78) no1 a y ∧ ∃ k, nI k = a1 ∧ k ≤ ncol F ∧ ∀ c, c < k → fA y 78 c = 1) (fun _ a1 _ => ncol F - a1.toNatClampNeg)
    refine key ?_ _ _ _ ⟨rfl, Fg.refl a, 0, rfl, Nat.zero_le _, fun c hc => absurd hc (Nat.not_lt_zero _)⟩
    rintro R b0 b1 y ⟨rfl, y1, k, rfl, k1, y2⟩ ih
    have fy : FrShw x y := Fg.trans f1 (y1.mono (fun _ _ h => h.elim) (fun _ _ h => h) (fun _ _ h => h) (fun _ h => Or.inr (Or.inr (Or.inr h))) (fun _ h => h))
    have Hy : RdM y F G CK Q := H.fr fy (by decide) (by decide) (fun r hr => by omega)
    have l10 : fN y 10 = 3 := Hy.1 10
    have l78 : fN y 78 = 64 := Hy.1 78
    have e10 : rA y 10 1 = nI (ncol F) := by rw [show (1 : Int32) = nI 1 from rfl, rA_nI (by decide)]; exact Hy.2.1.2.1
    unfold j_Mod_show_33
    rw [e10, l10, l78]
    refine ⟨vp_in_nI (n := 1) (by decide) (by decide), ?_⟩
    by_cases ck : k < ncol F
    · refine br_f (by (first | omega | (simp (disch := omega) only [Int32.le_iff_toInt_le, Int32.lt_iff_toInt_lt, z_eq, z_in, nI_toInt, z_cl, z_m1, z_sg, z_255, Int32.reduceToInt] <;> omega) | (simp only [Int32.le_iff_toInt_le, Int32.lt_iff_toInt_lt, z_eq, z_in, z_add, z_sub, z_mul, z_neg, z_nI, z_cl, z_sg, z_255, z_lit, Int32.reduceToInt] <;> omega))) ⟨vp_in_nI (by omega) (by decide), nm_e ?_⟩
      rw [nI_1]
      refine ih _ _ _ ⟨rfl, Fg.trans y1 (Fg.a rfl), k + 1, rfl, ck, fun c hc => ?_⟩ (by rw [nI_clamp (by omega), nI_clamp (by omega)]; omega)
      by_cases e : c = k
      · rw [e, gA_on (by omega)]; rfl
      · rw [gA_off (by omega) e]; exact y2 c (by omega)
    · have e : k = ncol F := by omega
      subst e
      have up : ∀ {z}, FrTr y z → FrShw x z := fun {z} fz => Fg.trans fy (fz.mono (fun _ _ h => ⟨h.1, Or.inl h.2⟩) (fun _ _ h => h) (fun _ _ h => h) (fun _ h => by rcases h with h | h | h; exact Or.inl h; exact Or.inr (Or.inl h); exact Or.inr (Or.inr (Or.inl h))) (fun _ h => h))
      have z0 : ∀ {z}, FrTr y z → fI z 0 0 = 0 := fun {z} fz => (fz.ii (by decide)).trans ((y1.ii id).trans a0)
      refine br_t (by (first | omega | (simp (disch := omega) only [Int32.le_iff_toInt_le, Int32.lt_iff_toInt_lt, z_eq, z_in, nI_toInt, z_cl, z_m1, z_sg, z_255, Int32.reduceToInt] <;> omega) | (simp only [Int32.le_iff_toInt_le, Int32.lt_iff_toInt_lt, z_eq, z_in, z_add, z_sub, z_mul, z_neg, z_nI, z_cl, z_sg, z_255, z_lit, Int32.reduceToInt] <;> omega))) (s_tellRecord (W := fun _ => true) hw O4 Hy O3 (by rw [p13, p11]) hr (fun c hc => by rw [y2 c hc]; rfl) ((y1.ii id).trans a113) (fun c z z1 z2 => pm r rfl rfl hr c z (up z1) (z0 z1) z2) (fun c z z1 z2 => pk r rfl rfl hr c z (up z1) (z0 z1) z2))
end
