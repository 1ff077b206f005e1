/-! show, class -/
abbrev FAg (x y : St) : Prop := FX (fun o k => o = 147 ∧ (k = 1 ∨ k = 2 ∨ k = 5 ∨ k = 6)) no2 no2 (fun a => a = 150 ∨ a = 151) no1 (fun o => o = 147) x y
theorem FAg.trans {x y z : St} (h : FAg x y) (k : FAg y z) : FAg x z := FX.trans (fun _ _ => id) id (fun t e => by rw [e]; exact sn147) h k
theorem FAs.g {x y : St} (h : FAs x y) : FAg x y := h.mono (fun t e => by rw [e]; exact sn147) (fun _ _ => id) (fun _ _ z => z) (fun _ _ z => z) (fun _ _ z => z) (fun _ z => Or.inl z) (fun _ z => z) (fun _ z => z)
theorem FrGu.g {x y : St} (f : FrGu x y) : FAg x y := ⟨fun o k _ => f.1 o k id, fun o k _ => f.2.1 o k id, fun o k _ _ => f.2.2.1 o k id, fun r _ h _ => ⟨f.2.2.2.1 r h, f.len r⟩, fun a _ => f.2.2.2.2.1 a id, fun r _ => f.len r, fun s r hs hr => Or.inl ⟨s, hs, by rw [← hr]; exact (f.2.2.1 s 0 id).symm⟩⟩
theorem gu_sk {x y : St} (hK : SkS x) (f : FrGu x y) : SkS y ∧ (∀ κ, Caps x κ → Caps y κ) ∧ ∀ B, Snk x 147 B → Snk y 147 B := by
  have eI : ∀ o k, fI y o k = fI x o k := fun o k => f.1 o k id
  have eR : ∀ o k, fR y o k = fR x o k := fun o k => f.2.2.1 o k id
  have eN : ∀ r, fN y r = fN x r := fun r => f.len r
  have eA : ∀ q, skRow q → fA y q = fA x q := fun q hq => f.aa (fun z => by
    rcases z with z | z
    · rw [z] at hq; exact st150.2.1 hq
    · rw [z] at hq; exact st151.2.1 hq)
  refine ⟨fun s hs => ?_, fun κ h => h.fr (fun s _ => eR s 0) eN, fun B h => ?_⟩
  · obtain ⟨a0, q, a1, a2, a3, a4, a5, a6⟩ := hK s hs
    exact ⟨by rw [eI]; exact a0, q, by rw [eR]; exact a1, a2, by rw [eN]; exact a3, by rw [eN]; exact a4, by rw [eA q a2]; exact a5, fun t ht h => a6 t ht (by rw [← eR]; exact h)⟩
  · obtain ⟨h1, h2, h3⟩ := h
    refine ⟨by rw [eI]; exact h1, by rw [eI]; exact h2, ?_⟩
    rcases h3 with ⟨r1, b1, b2, b3, q, b4, b5, b6⟩ | ⟨r1, r2, c, q, r3, r4, r5⟩
    · refine Or.inl ⟨r1, b1, by rw [eI]; exact b2, by rw [eI]; exact b3, q, by rw [eR]; exact b4, by rw [eN]; exact b5, fun i hi => ?_⟩
      obtain ⟨-, q', a1, a2, -⟩ := hK 147 sn147
      rw [b4] at a1
      rw [← Option.some.inj a1] at a2
      rw [eA q a2]
      exact b6 i hi
    · exact Or.inr ⟨r1, by rw [eI]; exact r2, c, q, by rw [eI]; exact r3, by rw [eR]; exact r4, by rw [eN]; exact r5⟩
theorem rgO_ok {G : List Nat} {r : Nat} (hr : r < smN G) : rgO G r < G.length ∧ smN (G.take (rgO G r)) ≤ r ∧ r - smN (G.take (rgO G r)) < G.getD (rgO G r) 0 := by
  have key : ∀ n, n ≤ G.length → r < smN (G.take n) → ∃ g, g < G.length ∧ smN (G.take g) ≤ r ∧ r < smN (G.take (g + 1)) := by
    intro n
    induction n with
    | zero => intro _ h; exact absurd h (Nat.not_lt_zero _)
    | succ n ih =>
      intro hn h
      by_cases c : r < smN (G.take n)
      · exact ih (by omega) c
      · exact ⟨n, by omega, by omega, h⟩
  obtain ⟨g, g1, g2, g3⟩ := key G.length (Nat.le_refl _) (by rw [List.take_length]; exact hr)
  rw [rgO_is g1 g2 g3]
  have := smN_take g1
  exact ⟨g1, g2, by omega⟩
/-- the sink of the output is emptied -/
theorem fg147 {x : St} (hK : SkS x) (h5 : fI x 147 5 = 0) (h6 : fI x 147 6 = 0) : SkS (setI (setI x 147 1 0) 147 2 0) ∧ FAg x (setI (setI x 147 1 0) 147 2 0) ∧ Snk (setI (setI x 147 1 0) 147 2 0) 147 [] := by
  obtain ⟨-, q, a1, -⟩ := hK 147 sn147
  refine ⟨setI_skS (setI_skS hK (by decide)) (by decide), FAg.trans (FAs.g (FK.as (FK.i (Or.inl rfl)))) (FAs.g (FK.as (FK.i (Or.inr (Or.inl rfl))))), ?_, ?_, Or.inl ⟨Nat.zero_le _, HL.of (q := q) ?_ gI_at a1 (Nat.zero_le _) (fun b hb => absurd hb (by simp)) (fun i hi => absurd hi (Nat.not_lt_zero _))⟩⟩
  · rw [gI_ne (by decide), gI_ne (by decide)]; exact h5
  · rw [gI_ne (by decide), gI_ne (by decide)]; exact h6
  · rw [gI_ne (by decide), gI_at]; rfl
section
variable {x y : St} {F : List SFd} {G : List Nat} {CK : List (List PgW)} {K : List ChT} {κ : Nat → Nat} {l1 : Int32}
theorem k_show {o : Bool} (hK : SkS x) (hC : Caps x κ) (hκ : ∀ t, SnkId t → κ t ≤ roomOf t) (hL : LC x) (h5 : fI x 147 5 = 0) (h6 : fI x 147 6 = 0) (h97 : fI x 97 0 = if o = true then 1 else 0) (hO : o = true → OpC x F (smN G) G K CK ∧ OkO F G CK) :
    ∃ κ', Kle κ κ' ∧ ∀ (post : Int32 → St → Prop) kb nb, KP κ ≤ kb + KP κ' → NP κ ≤ nb + NP κ' →
      (¬ (o = true ∧ 0 ≤ l1 ∧ l1 < nI (smN G)) → ∀ y, SkS y → Caps y κ' → FAg x y → Snk y 147 [] → post (-1) y) →
      (∀ r, o = true → l1 = nI r → r < smN G → 100000 < (shO F G CK (fun _ => true) r).length → ∀ y, SkS y → Caps y κ' → FAg x y → Snk y 147 [] → post (-1) y) →
      (∀ r, o = true → l1 = nI r → r < smN G → (shO F G CK (fun _ => true) r).length ≤ 100000 → ∀ y, SkS y → Caps y κ' → FAg x y → Snk y 147 (shO F G CK (fun _ => true) r) → post (nI (shO F G CK (fun _ => true) r).length) y) →
      wp_V_show post 0 l1 kb nb x := by
  obtain ⟨u1, u2, u3⟩ := fg147 hK h5 h6
  have uC : Caps (setI (setI x 147 1 0) 147 2 0) κ := hC
  have uI' : ∀ o k, o ≠ 147 → fI (setI (setI x 147 1 0) 147 2 0) o k = fI x o k := fun o k h => u2.1 o k (fun z => h z.1)
  have enter : ∀ (post : Int32 → St → Prop) kb nb, (((fI (setI (setI x 147 1 0) 147 2 0) 97 0) = 0 → post (-1) (setI (setI x 147 1 0) 147 2 0)) ∧ (¬ (fI (setI (setI x 147 1 0) 147 2 0) 97 0) = 0 → ((l1 < 0 → post (-1) (setI (setI x 147 1 0) 147 2 0)) ∧ (¬ l1 < 0 → ((l1 < (fI (setI (setI x 147 1 0) 147 2 0) 97 1) → wp_JArr_fill (fun (x21 : St) => (∀ v22 : Int32, v22 = ((fI x21 70 1) - 1) → ∃ n : Nat, wl_Asm_assembleN_58 post n 146 l1 70 v22 kb nb x21)) 151 (-1) (setI (setI x 147 1 0) 147 2 0)) ∧ (¬ l1 < (fI (setI (setI x 147 1 0) 147 2 0) 97 1) → post (-1) (setI (setI x 147 1 0) 147 2 0))))))) → wp_V_show post 0 l1 kb nb x := fun post kb nb h => ⟨kb, nb, 0, 0, by omega, by omega, nm_e (nm_e h)⟩
  by_cases ok : o = true ∧ 0 ≤ l1 ∧ l1 < nI (smN G)
  rotate_left
  · refine ⟨κ, Kle.refl hκ, fun post kb nb _ _ pn _ _ => enter post kb nb ?_⟩
    have no := pn ok _ u1 uC u2 u3
    rw [uI' 97 0 (by decide), uI' 97 1 (by decide), h97]
    cases o with
    | false => exact br_t rfl no
    | true =>
      rw [(hO rfl).1.2.2.1]
      refine br_f (by decide) ?_
      by_cases c1 : l1 < 0
      · exact br_t c1 no
      · exact br_f c1 (br_f (fun z => ok ⟨rfl, Int32.not_lt.mp c1, z⟩) no)
  obtain ⟨ho, n0, n1⟩ := ok
  obtain ⟨O, hOk⟩ := hO ho
  have hw := O.2.1
  have hR := O.1
  have hN := hR.2.2.1
  have h128 := hw.1
  have h64 := hw.2.1
  have s2000 := O.2.2.2.2.2.2.2.1
  have hl : CK.length = ncol F * G.length := by rw [O.2.2.2.2.2.1, Nat.mul_comm]
  obtain ⟨bb, dE, Bs⟩ := O.2.2.2.2.2.2.2.2.2.2.2.2.2.2
  have he := Bs.1.2.1
  obtain ⟨r, rfl, hr⟩ : ∃ r, l1 = nI r ∧ r < smN G := by
    obtain ⟨n, m1, rfl⟩ := wb_of32 l1
    have m2 : n < 2 ^ 31 := by
      rcases Nat.lt_or_ge n (2 ^ 31) with z | z
      · exact z
      · exact absurd (nI_big z m1) (Int32.not_lt.mpr n0)
    refine ⟨n, rfl, ?_⟩
    rcases Nat.lt_or_ge n (smN G) with z | z
    · exact z
    · exact absurd n1 (by (first | omega | (simp (disch := omega) only [Int32.le_iff_toInt_le, Int32.lt_iff_toInt_lt, z_eq, z_in, nI_toInt, z_cl, z_m1, z_sg, z_255, Int32.reduceToInt] <;> omega) | (simp only [Int32.le_iff_toInt_le, Int32.lt_iff_toInt_lt, z_eq, z_in, z_add, z_sub, z_mul, z_neg, z_nI, z_cl, z_sg, z_255, z_lit, Int32.reduceToInt] <;> omega)))
  obtain ⟨g1, g2, g3⟩ := rgO_ok hr
  have esh : shO F G CK (fun _ => true) r = tlG vlB F (fun _ => true) 17 (-1) (recS F CK (rgO G r) (r - smN (G.take (rgO G r)))) := rfl
  have cell := fun c (hc : c < ncol F) => cell86 (r := r) (c := c) hw O hOk g1 g2 g3 he hc
  generalize hT : shO F G CK (fun _ => true) r = T at *
  generalize rgO G r = g at *
  generalize r - smN (G.take g) = j at *
  obtain ⟨J1, J2, -⟩ := recS_ok hw hOk hl g1 g3 (fun _ => true)
  obtain ⟨κ', mm, ff⟩ := writeGroup_ok (F := F) (W := fun _ => true) (V := fL x 85) (b := bb) (e := eC F CK g) hw hN 17 200 (by decide) κ (recS F CK g j) (-1) 0 [] hκ (Or.inl rfl) rfl (by decide) J1 J2
  rw [← esh] at ff
  refine ⟨κ', mm, fun post kb nb hk hn pn pm pk => enter post kb nb ?_⟩
  rw [uI' 97 0 (by decide), uI' 97 1 (by decide), h97, if_pos ho, O.2.2.1]
  refine br_f (by decide) (br_f (Int32.not_lt.mpr n0) (br_t n1 ?_))
  generalize setI (setI x 147 1 0) 147 2 0 = u at *
  have uN : ∀ r, r < 152 → fN u r = fN x r := fun r hr => u2.2.2.2.2.2.1 r hr
  have ur : ∀ q, 71 ≤ q → q ≤ 95 → fA u q = fA x q := fun q a b => (u2.2.2.2.1 q (Or.inl (by omega)) (by omega) (fun t e => by rw [e]; exact stRow_ne sn147 hK (st_vl a b))).1
  refine d_fill (by rw [uN 151 (by decide), hL 151 (by decide)]; decide) (fun v v1 v2 => ?_)
  have fv : FrGu u v := v1.mono (fun _ _ h => h) (fun _ _ h => h) (fun _ _ h => h) (fun _ h => Or.inr h) (fun _ h => h)
  have hLv : LC v := fun r hr => (fv.len r).trans ((uN r hr).trans (hL r hr))
  have vr : ∀ q, 71 ≤ q → q ≤ 95 → fA v q = fA x q := fun q a b => (fv.aa (show ¬ (q = 150 ∨ q = 151) by omega)).trans (ur q a b)
  have hRv : RepC v 70 F := hR.cg7 ((fv.ii id).trans (uI' 70 0 (by decide))) ((fv.ii id).trans (uI' 70 1 (by decide))) (fun q a b => vr q a (by omega))
  rw [hRv.2.1]
  refine nm_e (k_colsN (cv := fun c => nI (eC F CK g c - (recS F CK g j c).length)) hw hLv hRv (fun c hc => ⟨(cell c hc).1, by rw [vr 86 (by decide) (by decide)]; exact (cell c hc).2⟩) (fun k hk => v2 k (by rw [uN 151 (by decide), hL 151 (by decide)]; show k < 128; omega)) (fun y y1 y2 y3 => ?_))
  have fy : FrGu u y := Fg.trans fv y1
  obtain ⟨k1, k2, k3⟩ := gu_sk u1 fy
  have hLy : LC y := fun r hr => (y1.len r).trans (hLv r hr)
  have yr : ∀ q, 71 ≤ q → q ≤ 95 → fA y q = fA x q := fun q a b => (y1.aa (show ¬ (q = 150 ∨ q = 151) by omega)).trans (vr q a b)
  have y85 : fL y 85 = fL x 85 := (fy.ll id).trans (u2.2.2.2.2.1 85 id)
  have Tc : TcC y F (fun _ => true) (fL x 85) bb (eC F CK g) (recS F CK g j) := by
    refine ⟨hLy, hRv.cg7 (y1.ii id) (y1.ii id) (fun q a b => y1.aa (by omega)), by have := Bs.1.2.2.2.2.1; have := Bs.1.2.2.2.2.2.2.1; omega, y85, y3, fun c hc _ => ?_⟩
    obtain ⟨lw, -⟩ := hOk.at hl g1 hc
    have le := eC_le he lw
    refine ⟨le.1, by rw [yr 83 (by decide) (by decide)]; exact end0 O hOk g1 hc, ?_⟩
    obtain ⟨k, q1, q2⟩ := rwL_drop (ckG F CK g c) j
    show (rwL (ckG F CK g c) j).length ≤ _ ∧ ∀ i, i < (rwL (ckG F CK g c) j).length → EnV y F bb (_ - (rwL (ckG F CK g c) j).length + i) ((rwL (ckG F CK g c) j).getD i en0)
    rw [q1, List.length_drop]
    refine ⟨by unfold eC; omega, fun i hi => ?_⟩
    rw [getD_dr, show eC F CK g c - ((ckG F CK g c).length - k) + i = (enA (CK.take (ncol F * g + c))).length + (k + i) from by unfold eC; omega]
    have := Bs.1.2.2.2.2.2.2.2.2.2 ((enA (CK.take (ncol F * g + c))).length + (k + i)) (by have := le.2; unfold eC at this; omega)
    rw [enA_in lw (by omega)] at this
    exact this.up (by rw [yr 83 (by decide) (by decide)]) (by rw [yr 84 (by decide) (by decide)]) (by rw [y85]) (fun i _ => by rw [yr 82 (by decide) (by decide)]) (Nat.le_refl _)
  refine ⟨kb, nb, 0, 0, by omega, by omega, ff y _ kb nb k1 (k2 κ uC) (k3 [] u3) ⟨Tc, fun c hc _ _ => y2 c hc⟩ hk hn (fun z z1 z2 z3 z4 => ?_)⟩
  have fz : FAg x z := FAg.trans u2 (FAg.trans (FrGu.g fy) (FAs.g z3.1))
  rw [List.nil_append] at z4
  obtain ⟨w1, w2, w3⟩ := z4
  rcases w3 with ⟨r1, r2⟩ | ⟨r1, r2, -⟩
  · refine br_t r2.2.2.1 ?_
    rw [r2.2.1]
    have pk' := pk r ho rfl hr
    rw [hT] at pk'
    exact pk' r1 z z1 z2 fz ⟨w1, w2, Or.inl ⟨r1, r2⟩⟩
  · refine br_f (by rw [r2]; decide) (nm_e (nm_e ?_))
    obtain ⟨a1, a2, a3⟩ := fg147 z1 w1 w2
    have pm' := pm r ho rfl hr
    rw [hT] at pm'
    exact pm' r1 _ a1 z2 (FAg.trans fz a2) a3
end
