/-! write of the class: groups and the end of the file -/
theorem end_len {D : List Nat} : (endB D).length = D.length + 12 := by
  unfold endB ckB
  simp only [List.length_append]
  show D.length + (4 + (4 + 4)) = _
  omega
theorem k_finish {κ : Nat → Nat} {s : Nat} {W D : List Nat} (hs : SnkId s) (hsn : s ≠ 49) (r40 : roomOf s = 40000) (hD : D.length ≤ 40000) (hκ : ∀ t, SnkId t → κ t ≤ roomOf t) :
    ∃ κ', Kle κ κ' ∧ ∀ (x : St) (post : Int32 → St → Prop) kb nb, SkS x → Caps x κ → Snk x s W → Snk x 49 D → fR x 45 0 = some s → KP κ ≤ kb + KP κ' → NP κ ≤ nb + NP κ' →
      (∀ y, SkS y → Caps y κ' → FK s x y → Snk y s (W ++ endB D) → post (if 40000 < (W ++ endB D).length then 0 else 1) y) →
      wp_Wrt_finish post 45 kb nb x := by
  have trv : ∀ x y : St, SkS x → FK s x y → True → True := fun _ _ _ _ _ => trivial
  have up : ∀ {κ κ1 : Nat → Nat}, Kle κ κ1 → ∀ t, SnkId t → κ1 t ≤ roomOf t := fun m t ht => (m t ht).2
  have e49 : stC 45 1 = 49 := by decide +kernel
  have r49 : roomOf 49 = 40000 := by decide
  obtain ⟨κ1, m1, f1⟩ := k_putAllU (κ := κ) (s := s) (B := W) (C := D) hs (by omega) hκ
  obtain ⟨κ2, m2, f2⟩ := (k_fixed (κ := κ1) (s := s) (n := 4) (B := W ++ D) (v := lN D.length) (Pre := fun _ => True) hs trv (up m1) (by decide)).k
  obtain ⟨κ3, m3, f3⟩ := (k_fixed (κ := κ2) (s := s) (n := 4) (B := W ++ D ++ fixB (uL (lN D.length)) 4) (v := (crcS (fun i => nI (D.getD i 0)) 0 D.length).toInt64) (Pre := fun _ => True) hs trv (up m2) (by decide)).k
  obtain ⟨κ4, m4, f4⟩ := (k_magic (κ := κ3) (s := s) (B := W ++ D ++ fixB (uL (lN D.length)) 4 ++ fixB (uL (crcS (fun i => nI (D.getD i 0)) 0 D.length).toInt64) 4) hs (up m3)).k
  refine ⟨κ4, m1.trans (m2.trans (m3.trans m4)), fun x post kb nb hK hC hsW hsD h0 hk hn p => ?_⟩
  have R0 : ∀ y, FK s x y → fR y 45 0 = some s := fun y f => (f.2.2.1 45 0 id (fun z => (snk45 hs).1 z.1.symm)).trans h0
  unfold wp_Wrt_finish
  rw [e49]
  obtain ⟨q, w1, w2, w3, w4, w5⟩ := hsD.src hK id49 hs (fun z => hsn z.symm) (by omega)
  refine ⟨s, h0, q, w1, ?_⟩
  rw [w5]
  refine f1 κ4 (m2.trans (m3.trans m4)) x _ kb nb q hK hC hsW w2 w3 w4 hk hn (fun y1 k1 n1 s1 c1 t1 a1 bk1 bn1 => ?_)
  have D1 := Snk.k hs id49 (fun z => hsn z.symm) hK t1 hsD
  refine ⟨s, R0 y1 t1, ?_⟩
  rw [D1.ct (by omega), show (nI D.length).toInt64 = lN D.length from nI_l (by omega), show (4 : Int32) = nI 4 from rfl]
  refine f2 κ4 (m3.trans m4) y1 _ k1 n1 s1 c1 a1 trivial bk1 bn1 (fun y2 k2 n2 s2 c2 t2 a2 bk2 bn2 => ?_)
  have T2 := FK.trans hs t1 t2
  have D2 := Snk.k hs id49 (fun z => hsn z.symm) s1 t2 D1
  obtain ⟨qb, v1, ⟨v2a, v2b, v2c, v2d⟩, v3, v4, v5⟩ := D2.src s2 id49 hs (fun z => hsn z.symm) (by omega)
  refine ⟨s, R0 y2 T2, qb, v1, ?_⟩
  rw [v5]
  refine c_checkOf (T := fun i => nI (D.getD i 0)) (a := 0) v2b (by omega) (Nat.zero_le _) (fun i _ hi => ⟨by have := v2d i hi; rw [Nat.zero_add] at this; exact this, ?_⟩) ?_
  · have := v2c _ (getD_mem hi)
    constructor <;> (first | omega | (simp (disch := omega) only [Int32.le_iff_toInt_le, Int32.lt_iff_toInt_lt, z_eq, z_in, nI_toInt, z_cl, z_m1, z_sg, z_255, Int32.reduceToInt] <;> omega) | (simp only [Int32.le_iff_toInt_le, Int32.lt_iff_toInt_lt, z_eq, z_in, z_add, z_sub, z_mul, z_neg, z_nI, z_cl, z_sg, z_255, z_lit, Int32.reduceToInt] <;> omega))
  refine f3 κ4 m4 y2 _ k2 n2 s2 c2 a2 trivial bk2 bn2 (fun y3 k3 n3 s3 c3 t3 a3 bk3 bn3 => ?_)
  have T3 := FK.trans hs T2 t3
  have D3 := Snk.k hs id49 (fun z => hsn z.symm) s2 t3 D2
  refine ⟨s, R0 y3 T3, f4 κ4 (Kle.refl (up m4)) y3 _ k3 n3 s3 c3 a3 trivial bk3 bn3 (fun y4 k4 n4 s4 c4 t4 a4 bk4 bn4 => ?_)⟩
  have T4 := FK.trans hs T3 t4
  have D4 := Snk.k hs id49 (fun z => hsn z.symm) s3 t4 D3
  have ea : W ++ D ++ fixB (uL (lN D.length)) 4 ++ fixB (uL (crcS (fun i => nI (D.getD i 0)) 0 D.length).toInt64) 4 ++ magB = W ++ endB D := by
    rw [uL_lN (by omega)]
    unfold endB ckB
    simp only [List.append_assoc]
  rw [ea] at a4
  have pp := p y4 s4 c4 T4 a4
  have o9 : fI y4 49 2 = 0 := by
    rcases D4.2.2 with z | z
    · exact z.2.2.2.1
    · omega
  refine ⟨s, R0 y4 T4, ?_⟩
  by_cases w : 40000 < (W ++ endB D).length
  · rw [if_pos w] at pp
    have ov : fI y4 s 2 = 1 := by
      rcases a4.2.2 with z | z
      · omega
      · exact z.2.1
    exact ⟨fun _ => pp, fun z => absurd (ov.symm.trans z) (by decide)⟩
  · rw [if_neg w] at pp
    have ov : fI y4 s 2 = 0 := by
      rcases a4.2.2 with z | z
      · exact z.2.2.2.1
      · omega
    exact ⟨fun z => absurd ov z, fun _ => ⟨fun z => absurd o9 z, fun _ => pp⟩⟩
section
variable {F : List SFd} {E : List SEn} {RS : List (List SEn)}
theorem WrI.next {x : St} {s sc g k : Nat} {VL : Nat → Int64} (h : WrI x s sc F E RS VL g k (ncol F)) : WrI x s sc F E RS VL g (k + 1) 0 := by
  obtain ⟨h1, h2, h3, h4, h5, h6, h7, h8⟩ := h
  refine ⟨h1, h2, h3, h4, h5, h6, h7, fun u hu => ?_⟩
  have := h8 u hu
  rw [if_pos hu] at this
  rw [if_neg (Nat.not_lt_zero u), Nat.succ_mul]
  exact this
theorem WrI.k49 {x y : St} {s sc g k c : Nat} {VL : Nat → Int64} (hc : SchId sc) (hs : SnkId s) (hK : SkS x) (f : FK 49 x y) (h : WrI x s sc F E RS VL g k c) : WrI y s sc F E RS VL g k c := by
  obtain ⟨i1, i2, i3, i4, i5, i6, i7, i8⟩ := h
  have fw := f.w49 hs
  refine ⟨fun r hr => (fw.n hr).trans (i1 r hr), (fw.r hs (by decide)).trans i2, (fw.r hs (by decide)).trans i3, (fw.r hs (by decide)).trans i4, i5.k hc id49 hK f, fun u hu => (i6 u hu).w hs hK fw, ?_, fun u hu => ?_⟩
  · rw [show fL y 39 = fL x 39 from fw.2.2.2.2.1 39 (by decide)]; exact i7
  · rw [(st41.keep id49 hK f).1, (st61.keep id49 hK f).1]; exact i8 u hu
theorem colR_len {most g k : Nat} : ∀ d c W D z, colR F RS most g k d c W D = some z → W.length ≤ 40000 → z.1.length ≤ 40000 ∧ (d ≠ 0 → z.2.length ≤ 40000) ∧ (d = 0 → z.2 = D) := by
  intro d
  induction d with
  | zero =>
    intro c W D z h hW
    simp only [colR, Option.some.injEq] at h
    rw [← h]
    exact ⟨hW, fun e => absurd rfl e, fun _ => rfl⟩
  | succ d ih =>
    intro c W D z h hW
    simp only [colR] at h
    cases e : ckX F RS most g k c with
    | none => rw [e] at h; exact absurd h (by simp)
    | some w =>
      rw [e] at h
      simp only at h
      split at h
      · exact absurd h (by simp)
      · rename_i co
        obtain ⟨a, b, c'⟩ := ih _ _ _ _ h (by omega)
        refine ⟨a, fun _ => ?_, fun e => absurd e (by omega)⟩
        by_cases d0 : d = 0
        · rw [c' d0]; omega
        · exact b d0
theorem k_beginGroup {κ : Nat → Nat} {n : Nat} {D : List Nat} (hn : n < 2 ^ 30) (hκ : ∀ t, SnkId t → κ t ≤ roomOf t) : App κ 49 D (varB n) (fun _ => True) (fun post kb nb x => wp_Wrt_beginGroup post 45 (nI n) kb nb x) := by
  have h := k_varint (κ := κ) (s := 49) (B := D) (v := lN n) (Pre := fun _ => True) id49 (fun _ _ _ _ _ => trivial) hκ
  rw [uL_lN (by omega)] at h
  refine h.cg (fun post kb nb x _ _ _ z => ?_)
  unfold wp_Wrt_beginGroup
  rw [show stC 45 1 = 49 from by decide +kernel, show (nI n).toInt64 = lN n from nI_l (by omega)]
  exact ⟨kb, nb, 0, 0, by omega, by omega, z⟩
theorem k_grps {s sc most g : Nat} {VL : Nat → Int64} (hs : SnkId s) (hsn : s ≠ 52 ∧ s ≠ 55 ∧ s ≠ 58 ∧ s ≠ 49 ∧ s ≠ 147) (hc : SchId sc) (hE : WrE F E RS) (hm : most ≤ 1000) (hg : 1 ≤ g) (hg2 : g ≤ 2000) (hng : nGr RS g ≤ 500) :
    ∀ d k W D κ t b, k + d = nGr RS g → TB t b → W.length ≤ 40000 → D.length ≤ 40000 → (ncol F = 0 → D.length ≤ 6000 + 10 * k) → (∀ t, SnkId t → κ t ≤ roomOf t) → ∃ κ' t' b', Kle κ κ' ∧ TB t' b' ∧ ∀ (x : St) (post : Int32 → St → Prop) kb nb, SkS x → Caps x κ → WrI x s sc F E RS VL g k 0 → TbI x t b → Snk x s W → Snk x 49 D → fR x 0 4 = some sc → KP κ ≤ kb + KP κ' → NP κ ≤ nb + NP κ' →
      (∀ y, SkS y → Caps y κ' → FWc s x y → TbI y t' b' → fI y s 5 = 0 → fI y s 6 = 0 → fI y 49 5 = 0 → fI y 49 6 = 0 → (∀ z, grpR F RS most g d k W D = some z → 40000 < (z.1 ++ endB z.2).length) → post (-1) y) →
      (∀ y z, grpR F RS most g d k W D = some z → (z.1 ++ endB z.2).length ≤ 40000 → SkS y → Caps y κ' → FWc s x y → TbI y t' b' → Snk y s (z.1 ++ endB z.2) → fI y 49 5 = 0 → fI y 49 6 = 0 → (∃ q18 : Nat, fR y 0 2 = some q18 ∧ wp_Wrt_giveFile (fun (q21 : Nat) (x19 : St) => (∀ x22 : St, x22 = setR x19 0 2 (some q21) → (∃ q23 : Nat, fR x22 0 2 = some q23 ∧ post (fI x22 q23 1) x22))) 45 q18 y)) →
      wl_V_write_83 post (d + 1) 0 (nI most) (nI g) (nI RS.length) (nI (nGr RS g)) (nI k) kb nb x := by
  have hw := hE.1
  have hc64 := hw.2.1
  have h2000 := hE.2.2.2.2.2.2
  have r40 : roomOf s = 40000 := snk40 ⟨hsn.2.1, hsn.2.2.1, hsn.2.2.2.2⟩
  have e45 : stC 0 7 = 45 := by decide +kernel
  have trv : ∀ x y : St, SkS x → FK 49 x y → True → True := fun _ _ _ _ _ => trivial
  intro d
  induction d with
  | zero =>
    intro k W D κ t b hkd htb hW hD hD0 hκ
    have ek : k = nGr RS g := by omega
    subst ek
    obtain ⟨κ1, m1, f1⟩ := k_finish (κ := κ) (s := s) (W := W) (D := D) hs hsn.2.2.2.1 r40 hD hκ
    refine ⟨κ1, t, b, m1, htb, fun x post kb nb hK hC hI hT hsW hsD h4 hk hn p0 p1 => ?_⟩
    unfold wl_V_write_83 j_V_write_83
    rw [e45]
    refine br_t (by (first | omega | (simp (disch := omega) only [Int32.le_iff_toInt_le, Int32.lt_iff_toInt_lt, z_eq, z_in, nI_toInt, z_cl, z_m1, z_sg, z_255, Int32.reduceToInt] <;> omega) | (simp only [Int32.le_iff_toInt_le, Int32.lt_iff_toInt_lt, z_eq, z_in, z_add, z_sub, z_mul, z_neg, z_nI, z_cl, z_sg, z_255, z_lit, Int32.reduceToInt] <;> omega))) ⟨kb, nb, 0, 0, by omega, by omega, ?_⟩
    refine f1 x _ kb nb hK hC hsW hsD hI.2.1 hk hn (fun y y1 y2 y3 y4 => ?_)
    have fw : FWc s x y := y3.mono (fwcS hs) (fun _ _ => id) (fun _ _ z => Or.inr ⟨by omega, z.2⟩) (fun _ _ z => z.elim) (fun _ _ z => z.elim) (fun _ z => z.elim) (fun _ z => z.elim) (fun _ z => by omega)
    have tb : t = 55 ∧ b = 58 ∨ t = 58 ∧ b = 55 := htb
    have n45 := (snk45 hs).1
    have fi : ∀ u k, u ≠ s → fI y u k = fI x u k := fun u k hu => y3.1 u k (fun z => hu z.1)
    have Ty : TbI y t b := by
      obtain ⟨h1, h2, h3, h4, h5, h6, h7, h8, h9⟩ := hT
      exact ⟨(y3.2.2.1 45 3 id (fun z => absurd z.2 (by decide))).trans h1, (y3.2.2.1 45 4 id (fun z => absurd z.2 (by decide))).trans h2, fun i hi => by rw [(st68.keep hs hK y3).1]; exact h3 i hi, (fi _ _ (by omega)).trans h4, (fi _ _ (by omega)).trans h5, (fi _ _ (by omega)).trans h6, (fi _ _ (by omega)).trans h7, (fi _ _ (by omega)).trans h8, (fi _ _ (by omega)).trans h9⟩
    have D4 := Snk.k hs id49 (fun z => hsn.2.2.2.1 z.symm) hK y3 hsD
    have eg : grpR F RS most g 0 (nGr RS g) W D = some (W, D) := rfl
    by_cases w : 40000 < (W ++ endB D).length
    · rw [if_pos w]
      refine ⟨fun z => absurd rfl z, fun _ => p0 y y1 y2 fw Ty y4.1 y4.2.1 D4.1 D4.2.1 (fun z hz => ?_)⟩
      rw [eg] at hz
      simp only [Option.some.injEq] at hz
      rw [← hz]
      exact w
    · rw [if_neg w]
      exact ⟨fun _ => p1 y (W, D) eg (by show (W ++ endB D).length ≤ _; omega) y1 y2 fw Ty y4 D4.1 D4.2.1, fun z => absurd z (by decide)⟩
  | succ d ih =>
    intro k W D κ t b hkd htb hW hD hD0 hκ
    have hlt : k * g < RS.length := (gr_lt hg).mpr (show k < nGr RS g by omega)
    have s2 : (k + 1) * g = k * g + g := Nat.succ_mul _ _
    have hrow : toG RS g k - k * g ≤ 2000 := by unfold toG; omega
    have hv := varB_len (toG RS g k - k * g)
    have ev : (if (nI RS.length - nI k * nI g) < nI g then (nI RS.length - nI k * nI g) else nI g) = nI (toG RS g k - k * g) := by
      rw [nI_mul, nI_sub (by omega)]
      by_cases c : RS.length - k * g < g
      · rw [if_pos (by (first | omega | (simp (disch := omega) only [Int32.le_iff_toInt_le, Int32.lt_iff_toInt_lt, z_eq, z_in, nI_toInt, z_cl, z_m1, z_sg, z_255, Int32.reduceToInt] <;> omega) | (simp only [Int32.le_iff_toInt_le, Int32.lt_iff_toInt_lt, z_eq, z_in, z_add, z_sub, z_mul, z_neg, z_nI, z_cl, z_sg, z_255, z_lit, Int32.reduceToInt] <;> omega)))]; unfold toG; congr 1; omega
      · rw [if_neg (by (first | omega | (simp (disch := omega) only [Int32.le_iff_toInt_le, Int32.lt_iff_toInt_lt, z_eq, z_in, nI_toInt, z_cl, z_m1, z_sg, z_255, Int32.reduceToInt] <;> omega) | (simp only [Int32.le_iff_toInt_le, Int32.lt_iff_toInt_lt, z_eq, z_in, z_add, z_sub, z_mul, z_neg, z_nI, z_cl, z_sg, z_255, z_lit, Int32.reduceToInt] <;> omega)))]; unfold toG; congr 1; omega
    obtain ⟨κ1, m1, f1⟩ := (k_beginGroup (κ := κ) (n := toG RS g k - k * g) (D := D) (by omega) hκ).k
    obtain ⟨κ2, t2, b2, m2, htb2, f2⟩ := k_cols (F := F) (E := E) (RS := RS) (s := s) (sc := sc) (most := most) (g := g) (k := k) (VL := VL) hs hsn hc hE hm hlt hg (ncol F) 0 W (D ++ varB (toG RS g k - k * g)) κ1 t b (by omega) htb hW (fun t ht => (m1 t ht).2)
    have ent : ∀ (κ3 : Nat → Nat) (_ : Kle κ2 κ3) (x : St) (post : Int32 → St → Prop) kb nb, SkS x → Caps x κ → WrI x s sc F E RS VL g k 0 → TbI x t b → Snk x s W → Snk x 49 D → fR x 0 4 = some sc → KP κ ≤ kb + KP κ3 → NP κ ≤ nb + NP κ3 →
        (∀ y, SkS y → Caps y κ2 → FWc s x y → TbI y t2 b2 → fI y s 5 = 0 → fI y s 6 = 0 → fI y 49 5 = 0 → fI y 49 6 = 0 → colR F RS most g k (ncol F) 0 W (D ++ varB (toG RS g k - k * g)) = none → post (-1) y) →
        (∀ y k1 n1 z, colR F RS most g k (ncol F) 0 W (D ++ varB (toG RS g k - k * g)) = some z → SkS y → Caps y κ2 → FWc s x y → WrI y s sc F E RS VL g (k + 1) 0 → TbI y t2 b2 → Snk y s z.1 → Snk y 49 z.2 → fR y 0 4 = some sc → KP κ2 ≤ k1 + KP κ3 → NP κ2 ≤ n1 + NP κ3 → wl_V_write_83 post (d + 1) 0 (nI most) (nI g) (nI RS.length) (nI (nGr RS g)) (nI (k + 1)) k1 n1 y) →
        wl_V_write_83 post (d + 1 + 1) 0 (nI most) (nI g) (nI RS.length) (nI (nGr RS g)) (nI k) kb nb x := by
      intro κ3 m3 x post kb nb hK hC hI hT hsW hsD h4 hk hn p0 p1
      unfold wl_V_write_83 j_V_write_83
      rw [e45]
      refine br_f (by (first | omega | (simp (disch := omega) only [Int32.le_iff_toInt_le, Int32.lt_iff_toInt_lt, z_eq, z_in, nI_toInt, z_cl, z_m1, z_sg, z_255, Int32.reduceToInt] <;> omega) | (simp only [Int32.le_iff_toInt_le, Int32.lt_iff_toInt_lt, z_eq, z_in, z_add, z_sub, z_mul, z_neg, z_nI, z_cl, z_sg, z_255, z_lit, Int32.reduceToInt] <;> omega))) (nm_r ev ?_)
      refine f1 κ3 (m2.trans m3) x _ kb nb hK hC hsD trivial hk hn (fun y k1 n1 y1 y2 y3 y4 y5 y6 => ⟨ncol F + 1, ?_⟩)
      have fw := y3.w49 hs
      have r4 : ∀ z, FWc s x z → fR z 0 4 = some sc := fun z f => (f.2.2.1 0 4 (by decide) (fun w => absurd w.2 (by decide))).trans h4
      refine f2 κ3 m3 y post _ (nI g) (nI RS.length) (nI (nGr RS g)) k1 n1 y1 y2 (hI.k49 hc hs hK y3) (hT.k49 htb hK y3) (Snk.k id49 hs hsn.2.2.2.1 hK y3 hsW) y4 (r4 y fw) y5 y6 (fun w w1 w2 w3 w4 w5 w6 w7 w8 w9 => p0 w w1 w2 (FWc.trans hs fw w3) w4 w5 w6 w7 w8 w9) (fun w kk nn zz w1 w2 w3 w4 w5 w6 w7 w8 w9 w10 => p1 w kk nn zz w1 w2 w3 (FWc.trans hs fw w4) w5.next w6 w7 w8 (r4 w (FWc.trans hs fw w4)) w9 w10)
    cases ec : colR F RS most g k (ncol F) 0 W (D ++ varB (toG RS g k - k * g)) with
    | none =>
      have eR : grpR F RS most g (d + 1) k W D = none := by
        simp only [grpR]
        rw [ec]
      refine ⟨κ2, t2, b2, m1.trans m2, htb2, fun x post kb nb hK hC hI hT hsW hsD h4 hk hn p0 p1 => ?_⟩
      refine ent κ2 (Kle.refl (fun t ht => (m2 t ht).2)) x post kb nb hK hC hI hT hsW hsD h4 hk hn (fun y y1 y2 y3 y4 y5 y6 y7 y8 _ => p0 y y1 y2 y3 y4 y5 y6 y7 y8 (fun z hz => absurd (eR.symm.trans hz) (by simp))) (fun y k1 n1 z hz => absurd (ec.symm.trans hz) (by simp))
    | some z0 =>
      have eR : grpR F RS most g (d + 1) k W D = grpR F RS most g d (k + 1) z0.1 z0.2 := by
        simp only [grpR]
        rw [ec]
      obtain ⟨l1, l2, l3⟩ := colR_len _ _ _ _ _ ec hW
      have ld : z0.2.length ≤ 40000 ∧ (ncol F = 0 → z0.2.length ≤ 6000 + 10 * (k + 1)) := by
        by_cases c0 : ncol F = 0
        · have := l3 c0
          have h0 := hD0 c0
          rw [this, List.length_append]
          omega
        · exact ⟨l2 c0, fun z => absurd z c0⟩
      obtain ⟨κ3, t3, b3, m3, htb3, f3⟩ := ih (k + 1) z0.1 z0.2 κ2 t2 b2 (by omega) htb2 l1 ld.1 ld.2 (fun t ht => (m2 t ht).2)
      refine ⟨κ3, t3, b3, m1.trans (m2.trans m3), htb3, fun x post kb nb hK hC hI hT hsW hsD h4 hk hn p0 p1 => ?_⟩
      refine ent κ3 m3 x post kb nb hK hC hI hT hsW hsD h4 hk hn (fun y y1 y2 y3 y4 y5 y6 y7 y8 hz => absurd (ec.symm.trans hz) (by simp)) (fun y k1 n1 z hz y1 y2 y3 y4 y5 y6 y7 y8 y9 y10 => ?_)
      rw [ec] at hz
      simp only [Option.some.injEq] at hz
      subst hz
      exact f3 y post k1 n1 y1 y2 y4 y5 y6 y7 y8 y9 y10 (fun w w1 w2 w3 w4 w5 w6 w7 w8 w9 => p0 w w1 w2 (FWc.trans hs y3 w3) w4 w5 w6 w7 w8 (fun z hz => w9 z (eR.symm.trans hz))) (fun w z w1 w2 w3 w4 w5 w6 w7 w8 w9 => p1 w z (eR.trans w1) w2 w3 w4 (FWc.trans hs y3 w5) w6 w7 w8 w9)
end
