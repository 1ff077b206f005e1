/-! write of the class, whole -/
theorem SkS.cgX {x y : St} (h : SkS x) (hI : ∀ s, SnkId s → fI y s 3 = fI x s 3) (hR : ∀ s, SnkId s → fR y s 0 = fR x s 0) (hA : ∀ q, skRow q → fA y q = fA x q ∧ fN y q = fN x q) : SkS y := fun s hs => by
  obtain ⟨h1, q, h2, h3, h4, h5, h6, h7⟩ := h s hs
  refine ⟨(hI s hs).trans h1, q, (hR s hs).trans h2, h3, by rw [(hA q h3).2]; exact h4, by rw [(hA q h3).2]; exact h5, by rw [(hA q h3).1]; exact h6, fun t ht z => h7 t ht ((hR t ht).symm.trans z)⟩
theorem Caps.cgX {x y : St} {κ : Nat → Nat} (hK : SkS x) (h : Caps x κ) (hR : ∀ s, SnkId s → fR y s 0 = fR x s 0) (hA : ∀ q, skRow q → fA y q = fA x q ∧ fN y q = fN x q) : Caps y κ := fun s hs => by
  obtain ⟨q, h1, h2⟩ := h s hs
  obtain ⟨-, q', h3, h4, -⟩ := hK s hs
  have e : q' = q := by rw [h3] at h1; injection h1
  subst e
  exact ⟨q', (hR s hs).trans h1, by rw [(hA q' h4).2]; exact h2⟩
abbrev FWq (s : Nat) (x y : St) : Prop := FX (fun o k => o = 45 ∧ (k = 11 ∨ k = 12) ∨ (o = 55 ∨ o = 58 ∨ o = s ∨ o = 52 ∨ o = 49) ∧ (k = 1 ∨ k = 2 ∨ k = 5 ∨ k = 6)) (fun o k => o = 45 ∧ (k = 13 ∨ k = 14)) (fun o k => o = 45 ∧ (k = 3 ∨ k = 4 ∨ k = 5 ∨ k = 6)) (fun a => a = 61 ∨ a = 62 ∨ a = 63 ∨ a = 65 ∨ a = 69 ∨ a = stC 55 4 ∨ a = stC 58 4) (fun a => a = 64 ∨ a = 66 ∨ a = 67) (fun o => o = 55 ∨ o = 58 ∨ o = s ∨ o = 52 ∨ o = 49) x y
theorem fq1 : ∀ t, SnkId t → ¬ (t = 45 ∧ (0 = 3 ∨ 0 = 4 ∨ 0 = 5 ∨ 0 = 6)) := fun t ht z => (snk45 ht).1 z.1
theorem FWq.trans {s : Nat} {x y z : St} (hs : SnkId s) (h : FWq s x y) (k : FWq s y z) : FWq s x z := FX.trans fq1 (by decide) (fwcS hs) h k
theorem FWc.q {s : Nat} {x y : St} (hs : SnkId s) (h : FWc s x y) : FWq s x y := h.mono (fwcS hs) fb1 (fun _ _ z => z) (fun _ _ z => z) (fun _ _ z => ⟨z.1, by omega⟩) (fun _ z => z) (fun _ z => z) (fun _ z => z)
theorem FK.qs {s : Nat} {x y : St} (hs : SnkId s) (h : FK s x y) : FWq s x y := h.mono (fwcS hs) (fun _ _ => id) (fun _ _ z => Or.inr ⟨by omega, z.2⟩) (fun _ _ z => z.elim) (fun _ _ z => z.elim) (fun _ z => z.elim) (fun _ z => z.elim) (fun _ z => by omega)
theorem FWq.r {s : Nat} {x : St} {k : Nat} {v : Option Nat} (h : k = 5 ∨ k = 6) : FWq s x (setR x 45 k v) := by
  refine ⟨fun _ _ _ => rfl, fun _ _ _ => rfl, fun o j c d => ?_, fun _ _ _ _ => ⟨rfl, rfl⟩, fun _ _ => rfl, fun _ _ => rfl, fun t r a b => Or.inl ⟨t, a, ?_⟩⟩
  · show (if o = 45 ∧ j = k then v else x.2.2.1 o j) = _
    rw [if_neg (fun z => c ⟨z.1, by omega⟩)]
  · have : fR (setR x 45 k v) t 0 = fR x t 0 := by
      show (if t = 45 ∧ 0 = k then v else x.2.2.1 t 0) = _
      rw [if_neg (fun z => by omega)]
    rw [← this]; exact b
theorem FWq.w61 {s : Nat} {x : St} {f : Nat → Int32} : FWq s x (setW x 61 f) := by
  refine ⟨fun _ _ _ => rfl, fun _ _ _ => rfl, fun _ _ _ _ => rfl, fun r _ c _ => ⟨?_, rfl⟩, fun _ _ => rfl, fun _ _ => rfl, fun t r a b => Or.inl ⟨t, a, b⟩⟩
  exact setW_ne (fun z => c (Or.inl z))
section
variable {F : List SFd} {E : List SEn} {RS : List (List SEn)}
theorem EnW_of {x : St} {u cnt : Nat} (hL : LC x) (h : RsC x F E cnt) (hw : WfS F) (hu : u < ncol F) : EnW x E (tyC F u) (idx E u) := fun i hi => by
  obtain ⟨i1, i2⟩ := idx_mem.mp hi
  obtain ⟨h1, h2, h3, h4, h5, h6, h7, h8⟩ := h
  obtain ⟨e1, e2, e3, e4, e5, e6, e7⟩ := h7 i i1
  obtain ⟨l1, l2, l3⟩ := lfC_ok hu
  have n42 : fN x 42 = 64000 := (hL 42 (by decide)).trans (by decide +kernel)
  rw [i2] at e7
  have tc : txC F u ↔ tyC F u = 3 := by
    constructor
    · rintro ⟨f, a, b, c⟩
      have := lfC_of a (by rw [b]; decide)
      rw [c] at this
      unfold tyC
      rw [this, b]; decide
    · intro z
      refine ⟨lfC F u, l1, ?_, l3⟩
      have := nI_uI (fTy F (lfC F u))
      rw [show uI (fTy F (lfC F u)) = 3 from z] at this
      exact this.symm
  refine ⟨by omega, e2, e3, e5, e6, fun z => e7.1 (fun w => z (tc.mp w)), fun z => ?_⟩
  obtain ⟨b1, a, b2, b3, b4⟩ := e7.2 (tc.mpr z)
  exact ⟨⟨b1, fun j hj => (b4 j hj).2⟩, by omega, a, b2, by show a + (E.getD i en0).2.2.2.2.length ≤ _; omega, fun j hj => (b4 j hj).1⟩
theorem stC43 : stC 36 10 = 43 := by decide +kernel
theorem stC61 : stC 45 7 = 61 := by decide +kernel
theorem hd_len {g : Nat} (hw : WfS F) : (hdB F RS g).length ≤ 5200 := by
  have a := varB_len F.length
  have b := varB_len RS.length
  have c := varB_len (nGr RS g)
  have hF := hw.1
  have fl : ∀ k, k ≤ F.length → (fdsB F k).length ≤ 40 * k := by
    intro k
    induction k with
    | zero => intro _; exact Nat.le_refl _
    | succ k ih =>
      intro hkk
      have q := ih (by omega)
      have q2 := fdB_len (F := F) (f := k) (hw.2.2.2.1 k (by omega)).2.2.2.2
      show (fdsB F k ++ fdB F k).length ≤ _
      rw [List.length_append]
      omega
  have := fl F.length (Nat.le_refl _)
  unfold hdB
  simp only [List.length_append]
  omega
theorem k_write {x : St} {κ : Nat → Nat} {s sc t b q2 most g : Nat} (hs : SnkId s) (hsn : s ≠ 52 ∧ s ≠ 55 ∧ s ≠ 58 ∧ s ≠ 49 ∧ s ≠ 147) (hc : SchId sc) (htb : TB t b) (hE : WrE F E RS) (hm1 : 1 ≤ most) (hm : most ≤ 1000) (hg : 1 ≤ g) (hg2 : g ≤ 2000) (hng : nGr RS g ≤ 500) (hF0 : F.length ≠ 0) (hκ : ∀ t, SnkId t → κ t ≤ roomOf t)
    (hK : SkS x) (hC : Caps x κ) (hL : LC x) (h4 : fR x 0 4 = some sc) (hR : RepC x sc F) (hRs : RsC x F E RS.length) (h0 : fR x 45 0 = some s) (h2 : fR x 0 2 = some q2) (hT : TbI x t b) (hs5 : fI x s 5 = 0) (hs6 : fI x s 6 = 0) (h95 : fI x 49 5 = 0) (h96 : fI x 49 6 = 0) :
    ∃ κ' t' b', Kle κ κ' ∧ TB t' b' ∧ ∀ (post : Int32 → St → Prop) kb nb, KP κ ≤ kb + KP κ' → NP κ ≤ nb + NP κ' →
      (∀ y, SkS y → Caps y κ' → FWq s x y → TbI y t' b' → fI y s 5 = 0 → fI y s 6 = 0 → fI y 49 5 = 0 → fI y 49 6 = 0 → filC F RS most g = none → post (-1) y) →
      (∀ y B, filC F RS most g = some B → SkS y → Caps y κ' → FWq s x y → TbI y t' b' → Snk y s B → B.length ≤ 40000 → fI y 49 5 = 0 → fI y 49 6 = 0 → post (nI B.length) (setR (setR y 45 0 (some q2)) 0 2 (some s))) →
      wp_V_write post 0 (nI most) (nI g) kb nb x := by
  have hw := hE.1
  have hF := hw.1
  have hN := hE.2.1
  have hRel := hE.2.2.1
  have h2000 := hE.2.2.2.2.2.2
  have n45 := (snk45 hs).1
  have e45 : stC 0 7 = 45 := by decide +kernel
  have e36 : stC 0 6 = 36 := by decide +kernel
  have e49 : stC 45 1 = 49 := by decide +kernel
  have tb : t = 55 ∧ b = 58 ∨ t = 58 ∧ b = 55 := htb
  have trv : ∀ x y : St, SkS x → FK 49 x y → True → True := fun _ _ _ _ _ => trivial
  have up : ∀ {κ κ1 : Nat → Nat}, Kle κ κ1 → ∀ t, SnkId t → κ1 t ≤ roomOf t := fun m t ht => (m t ht).2
  obtain ⟨κ1, m1, f1⟩ := (k_magic (κ := κ) (s := s) (B := []) hs hκ).k
  obtain ⟨κ2, m2, f2⟩ := (k_varint (κ := κ1) (s := 49) (B := []) (v := lN F.length) (Pre := fun _ => True) id49 trv (up m1)).k
  obtain ⟨κ3, m3, f3⟩ := k_begF (sc := sc) (cnt := RS.length) (ng := nGr RS g) (F := F) hc hw hN h2000 (by omega) F.length 0 ([] ++ varB (uL (lN F.length))) κ2 (by omega) (up m2)
  have hD : ([] : List Nat) ++ varB (uL (lN F.length)) ++ (fdR F F.length 0 ++ (varB RS.length ++ varB (nGr RS g))) = hdB F RS g := by
    rw [uL_lN (by omega), List.nil_append]
    have := fdR_eq (F := F) F.length 0
    rw [Nat.zero_add] at this
    have e0 : fdsB F 0 = [] := rfl
    rw [e0, List.nil_append] at this
    rw [← this]
    rfl
  rw [hD] at f3
  have hdl := hd_len (RS := RS) (g := g) hw
  obtain ⟨κ4, t4, b4, m4, htb4, f4⟩ := k_grps (F := F) (E := E) (RS := RS) (s := s) (sc := sc) (most := most) (g := g) (VL := fL x 39) hs hsn hc hE hm hg hg2 hng (nGr RS g) 0 magB (hdB F RS g) κ3 t b (by omega) htb (by decide) (by omega) (fun _ => by omega) (up m3)
  refine ⟨κ4, t4, b4, m1.trans (m2.trans (m3.trans m4)), htb4, fun post kb nb hk hn p0 p1 => ?_⟩
  have hsl : sc ≠ 45 ∧ sc ≠ 0 := by unfold SchId at hc; omega
  unfold wp_V_write
  rw [e45, e36]
  refine ⟨sc, h4, ?_⟩
  rw [hR.1]
  refine br_f (fun z => hF0 (nI_inj (b := 0) (by omega) (by decide) z)) (br_f (by (first | omega | (simp (disch := omega) only [Int32.le_iff_toInt_le, Int32.lt_iff_toInt_lt, z_eq, z_in, nI_toInt, z_cl, z_m1, z_sg, z_255, Int32.reduceToInt] <;> omega) | (simp only [Int32.le_iff_toInt_le, Int32.lt_iff_toInt_lt, z_eq, z_in, z_add, z_sub, z_mul, z_neg, z_nI, z_cl, z_sg, z_255, z_lit, Int32.reduceToInt] <;> omega))) (br_f (by (first | omega | (simp (disch := omega) only [Int32.le_iff_toInt_le, Int32.lt_iff_toInt_lt, z_eq, z_in, nI_toInt, z_cl, z_m1, z_sg, z_255, Int32.reduceToInt] <;> omega) | (simp only [Int32.le_iff_toInt_le, Int32.lt_iff_toInt_lt, z_eq, z_in, z_add, z_sub, z_mul, z_neg, z_nI, z_cl, z_sg, z_255, z_lit, Int32.reduceToInt] <;> omega))) (br_f (by (first | omega | (simp (disch := omega) only [Int32.le_iff_toInt_le, Int32.lt_iff_toInt_lt, z_eq, z_in, nI_toInt, z_cl, z_m1, z_sg, z_255, Int32.reduceToInt] <;> omega) | (simp only [Int32.le_iff_toInt_le, Int32.lt_iff_toInt_lt, z_eq, z_in, z_add, z_sub, z_mul, z_neg, z_nI, z_cl, z_sg, z_255, z_lit, Int32.reduceToInt] <;> omega))) (br_t (by (first | omega | (simp (disch := omega) only [Int32.le_iff_toInt_le, Int32.lt_iff_toInt_lt, z_eq, z_in, nI_toInt, z_cl, z_m1, z_sg, z_255, Int32.reduceToInt] <;> omega) | (simp only [Int32.le_iff_toInt_le, Int32.lt_iff_toInt_lt, z_eq, z_in, z_add, z_sub, z_mul, z_neg, z_nI, z_cl, z_sg, z_255, z_lit, Int32.reduceToInt] <;> omega))) ?_))))
  rw [hRs.1]
  refine nm_e ⟨fun z => by have := nI_inj (b := 0) (by omega) (by decide) z; omega, ?_⟩
  refine nm_r (e' := nI (nGr RS g)) (by rw [nI_add, show nI (RS.length + g) - 1 = nI (RS.length + g - 1) from by rw [show (1 : Int32) = nI 1 from rfl, nI_sub (by omega)], nI_dv (by omega) (by omega) (by omega)]; rfl) ?_
  refine br_t (by (first | omega | (simp (disch := omega) only [Int32.le_iff_toInt_le, Int32.lt_iff_toInt_lt, z_eq, z_in, nI_toInt, z_cl, z_m1, z_sg, z_255, Int32.reduceToInt] <;> omega) | (simp only [Int32.le_iff_toInt_le, Int32.lt_iff_toInt_lt, z_eq, z_in, z_add, z_sub, z_mul, z_neg, z_nI, z_cl, z_sg, z_255, z_lit, Int32.reduceToInt] <;> omega))) ⟨sc, h4, ?_⟩
  refine bseq (m1.trans (m2.trans m3)) m4 hk hn (fun a1 b1 a2 b2 i1 i2 i3 i4 => ?_)
  unfold wp_Wrt_begin
  refine nm_e (nm_e ⟨36, gR_at, ?_⟩)
  rw [stC43, stC61]
  have n43 : fN x 43 = 64 := (hL 43 (by decide)).trans (by decide +kernel)
  have n61 : fN x 61 = 64 := (hL 61 (by decide)).trans (by decide +kernel)
  refine ⟨⟨by decide, by decide, by decide, by show 0 + 64 ≤ fN x 43; omega, by show 0 + 64 ≤ fN x 61; omega, fun i _ => rfl⟩, nm_e ?_⟩
  generalize hX : setW (setR (setR x 45 5 (some sc)) 45 6 (some 36)) 61 (va_cpy (fA (setR (setR x 45 5 (some sc)) 45 6 (some 36)) 43) (fA (setR (setR x 45 5 (some sc)) 45 6 (some 36)) 61) (0 : Int32).toNatClampNeg (0 : Int32).toNatClampNeg (64 : Int32).toNatClampNeg) = X
  have fX : FWq s x X := by rw [← hX]; exact FWq.trans hs (FWq.trans hs (FWq.r (Or.inl rfl)) (FWq.r (Or.inr rfl))) FWq.w61
  have I0 : ∀ o k, fI X o k = fI x o k := fun o k => by rw [← hX]; rfl
  have L0 : ∀ r, fL X r = fL x r := fun r => by rw [← hX]; rfl
  have N0 : ∀ r, fN X r = fN x r := fun r => by rw [← hX]; rfl
  have A0 : ∀ r, r ≠ 61 → fA X r = fA x r := fun r hr => by rw [← hX]; exact setW_ne hr
  have R0 : ∀ o k, ¬ (o = 45 ∧ (k = 5 ∨ k = 6)) → fR X o k = fR x o k := fun o k hok => by
    rw [← hX]
    show (if o = 45 ∧ k = 6 then some 36 else (if o = 45 ∧ k = 5 then some sc else x.2.2.1 o k)) = _
    rw [if_neg (fun z => hok ⟨z.1, Or.inr z.2⟩), if_neg (fun z => hok ⟨z.1, Or.inl z.2⟩)]
  have R5 : fR X 45 5 = some sc := by
    rw [← hX]
    show (if (45 : Nat) = 45 ∧ (5 : Nat) = 6 then some 36 else (if (45 : Nat) = 45 ∧ (5 : Nat) = 5 then some sc else x.2.2.1 45 5)) = _
    rw [if_neg (by decide), if_pos ⟨rfl, rfl⟩]
  have R6 : fR X 45 6 = some 36 := by
    rw [← hX]
    exact (gR_at : fR (setR (setR x 45 5 (some sc)) 45 6 (some 36)) 45 6 = some 36)
  have A61 : ∀ u, u < 64 → fA X 61 u = fA x 43 u := fun u hu => by
    rw [← hX, setW_at]
    rw [show (0 : Int32).toNatClampNeg = 0 from rfl, show (64 : Int32).toNatClampNeg = 64 from rfl, pk_cpy_in (Nat.zero_le u) (by omega), Nat.zero_add, Nat.sub_zero]
    rfl
  have sk61 : ∀ q, skRow q → q ≠ 61 := fun q hq z => by rw [z] at hq; unfold skRow at hq; omega
  have KX : SkS X := hK.cgX (fun u _ => I0 u 3) (fun u hu => R0 u 0 (fun z => (snk45 hu).1 z.1)) (fun q hq => ⟨A0 q (sk61 q hq), N0 q⟩)
  have CX : Caps X κ := hC.cgX hK (fun u hu => R0 u 0 (fun z => (snk45 hu).1 z.1)) (fun q hq => ⟨A0 q (sk61 q hq), N0 q⟩)
  have WX : LC X ∧ fR X 45 0 = some s ∧ RepC X sc F ∧ (∀ u, u < ncol F → EnW X E (tyC F u) (idx E u)) ∧ fL X 39 = fL x 39 ∧ fI X 36 0 = nI RS.length ∧ ∀ u, u < ncol F → Chn (fA X 41) (fA X 61 u) (idx E u) := by
    refine ⟨fun r hr => (N0 r).trans (hL r hr), (R0 45 0 (by decide)).trans h0, hR.cg2 (fun k _ => I0 sc k) (fun k k2 k12 => A0 _ (by have := (sch_st hc k2 k12).2; omega)), fun u hu => ?_, L0 39, (I0 36 0).trans hRs.1, fun u hu => ?_⟩
    · have q := EnW_of hL hRs hw hu
      intro i hi
      obtain ⟨h1, h2, h3, h4, h5, h6⟩ := q i hi
      refine ⟨h1, by rw [A0 37 (by decide)]; exact h2, by rw [A0 38 (by decide)]; exact h3, h4, h5, ?_⟩
      rw [L0 39]
      unfold RfC at h6 ⊢
      rw [A0 42 (by decide), N0 42]
      exact h6
    · have hu64 : u < 64 := by have := hw.2.1; omega
      have q := (hRs.2.2.2.2.2.2.2 u hu64).1
      rw [List.take_length] at q
      rw [A0 41 (by decide), A61 u hu64]
      exact q
  have TX : TbI X t b := by
    obtain ⟨h1, h2, h3, h4, h5, h6, h7, h8, h9⟩ := hT
    exact ⟨(R0 45 3 (by decide)).trans h1, (R0 45 4 (by decide)).trans h2, fun i hi => by rw [A0 68 (by decide)]; exact h3 i hi, (I0 _ _).trans h4, (I0 _ _).trans h5, (I0 _ _).trans h6, (I0 _ _).trans h7, (I0 _ _).trans h8, (I0 _ _).trans h9⟩
  have q2X : fR X 0 2 = some q2 := (R0 0 2 (by decide)).trans h2
  have q4X : fR X 0 4 = some sc := (R0 0 4 (by decide)).trans h4
  have S5 := (I0 s 5).trans hs5
  have S6 := (I0 s 6).trans hs6
  have N5 := (I0 49 5).trans h95
  have N6 := (I0 49 6).trans h96
  clear hX I0 A0 R0 N0 A61
  refine ⟨s, WX.2.1, ?_⟩
  unfold wp_Snk_forget
  refine nm_e (nm_e ?_)
  obtain ⟨o1, o2, o3⟩ := forget_ok hs KX CX S5 S6
  have fo : FK s X (setI (setI X s 1 0) s 2 0) := FK.trans hs (setI_frK (Or.inl rfl)).x (setI_frK (Or.inr rfl)).x
  generalize setI (setI X s 1 0) s 2 0 = X1 at *
  have r0 : ∀ y, FK s X y → fR y 45 0 = some s := fun y f => (f.2.2.1 45 0 id (fun z => n45 z.1.symm)).trans WX.2.1
  refine ⟨s, r0 X1 fo, f1 κ3 (m2.trans m3) X1 _ a1 b1 o1 o2 o3 trivial i1 i2 (fun X2 k2 n2 s2 c2 t2 a2' bk2 bn2 => ?_)⟩
  rw [List.nil_append] at a2'
  have T2 := FK.trans hs fo t2
  rw [e49]
  refine nm_e (nm_e ?_)
  have ne49 : (49 : Nat) ≠ s := fun z => hsn.2.2.2.1 z.symm
  obtain ⟨u1, u2, u3⟩ := forget_ok id49 s2 c2 ((T2.1 49 5 (fun z => ne49 z.1)).trans N5) ((T2.1 49 6 (fun z => ne49 z.1)).trans N6)
  have fo2 : FK 49 X2 (setI (setI X2 49 1 0) 49 2 0) := FK.trans id49 (setI_frK (Or.inl rfl)).x (setI_frK (Or.inr rfl)).x
  generalize setI (setI X2 49 1 0) 49 2 0 = X3 at *
  have G3 : LC X3 ∧ RepC X3 sc F ∧ fR X3 45 5 = some sc ∧ fR X3 45 6 = some 36 ∧ fI X3 36 0 = nI RS.length := by
    refine ⟨fun r hr => (fo2.2.2.2.2.2.1 r hr).trans ((T2.2.2.2.2.2.1 r hr).trans (WX.1 r hr)), (WX.2.2.1.k hc hs KX T2).k hc id49 s2 fo2, (fo2.2.2.1 45 5 id (fun z => absurd z.2 (by decide))).trans ((T2.2.2.1 45 5 id (fun z => absurd z.2 (by decide))).trans R5), (fo2.2.2.1 45 6 id (fun z => absurd z.2 (by decide))).trans ((T2.2.2.1 45 6 id (fun z => absurd z.2 (by decide))).trans R6), (fo2.1 36 0 (by decide)).trans ((T2.1 36 0 (fun z => by unfold SnkId at hs; omega)).trans WX.2.2.2.2.2.1)⟩
  refine ⟨sc, G3.2.2.1, ?_⟩
  rw [G3.2.1.1, show (nI F.length).toInt64 = lN F.length from nI_l (by omega)]
  refine f2 κ3 m3 X3 _ k2 n2 u1 u2 u3 trivial bk2 bn2 (fun X4 k4 n4 s4 c4 t4' a4 bk4 bn4 => ⟨F.length + 1, ?_⟩)
  have fo4 := FK.trans id49 fo2 t4'
  have G4 : BgI X4 sc F RS.length := BgI.k hc X3 X4 u1 t4' G3
  refine f3 X4 _ k4 n4 s4 c4 a4 G4 bk4 bn4 (fun Y y1 y2 y3 y4 => ⟨nGr RS g + 1, ?_⟩)
  have fY := FK.trans id49 fo4 y3
  have wY : FWc s X2 Y := fY.w49 hs
  have IY : WrI Y s sc F E RS (fL x 39) g 0 0 := by
    have GY := BgI.k hc X4 Y s4 y3 G4
    have q41a := (st41.keep hs KX T2).1
    have q61a := (st61.keep hs KX T2).1
    have q41b := (st41.keep id49 s2 fY).1
    have q61b := (st61.keep id49 s2 fY).1
    have fs : FWc s X X2 := T2.mono (fwcS hs) (fun _ _ => id) (fun _ _ z => Or.inr ⟨by omega, z.2⟩) (fun _ _ z => z.elim) (fun _ _ z => z.elim) (fun _ z => z.elim) (fun _ z => z.elim) (fun _ z => by omega)
    refine ⟨GY.1, (fY.2.2.1 45 0 id (fun z => absurd z.1 (by decide))).trans (r0 X2 T2), GY.2.2.1, GY.2.2.2.1, GY.2.1, fun u hu => ((WX.2.2.2.1 u hu).w hs KX fs).w hs s2 wY, ?_, fun u hu => ?_⟩
    · rw [show fL Y 39 = fL X2 39 from fY.2.2.2.2.1 39 id, show fL X2 39 = fL X 39 from T2.2.2.2.2.1 39 id]; exact WX.2.2.2.2.1
    · rw [q41b, q61b, q41a, q61a, if_neg (Nat.not_lt_zero u), Nat.zero_mul, List.drop_zero, AC_flat hRel hu]
      exact WX.2.2.2.2.2.2 u hu
  have TY : TbI Y t b := by
    refine TbI.k49 htb s2 ?_ fY
    obtain ⟨h1, h2, h3, h4, h5, h6, h7, h8, h9⟩ := TX
    have fi : ∀ u k, u ≠ s → fI X2 u k = fI X u k := fun u k hu => T2.1 u k (fun z => hu z.1)
    exact ⟨(T2.2.2.1 45 3 id (fun z => absurd z.2 (by decide))).trans h1, (T2.2.2.1 45 4 id (fun z => absurd z.2 (by decide))).trans h2, fun i hi => by rw [(st68.keep hs KX T2).1]; exact h3 i hi, (fi _ _ (by omega)).trans h4, (fi _ _ (by omega)).trans h5, (fi _ _ (by omega)).trans h6, (fi _ _ (by omega)).trans h7, (fi _ _ (by omega)).trans h8, (fi _ _ (by omega)).trans h9⟩
  have FQ : FWq s x Y := FWq.trans hs fX (FWq.trans hs (T2.qs hs) (wY.q hs))
  have r04 : fR Y 0 4 = some sc := (fY.2.2.1 0 4 id (fun z => absurd z.2 (by decide))).trans ((T2.2.2.1 0 4 id (fun z => absurd z.2 (by decide))).trans q4X)
  have r02 : fR Y 0 2 = some q2 := (fY.2.2.1 0 2 id (fun z => absurd z.2 (by decide))).trans ((T2.2.2.1 0 2 id (fun z => absurd z.2 (by decide))).trans q2X)
  refine f4 Y post a2 b2 y1 y2 IY TY (Snk.k id49 hs hsn.2.2.2.1 s2 fY a2') y4 r04 i3 i4 (fun y z1 z2 z3 z4 z5 z6 z7 z8 z9 => p0 y z1 z2 (FWq.trans hs FQ (z3.q hs)) z4 z5 z6 z7 z8 ?_) (fun y z z1 z2 z3 z4 z5 z6 z7 z8 z9 => ?_)
  · unfold filC
    cases e : grpR F RS most g (nGr RS g) 0 magB (hdB F RS g) with
    | none => rfl
    | some z =>
      simp only
      exact if_pos (z9 z e)
  · have ef : filC F RS most g = some (z.1 ++ endB z.2) := by
      unfold filC
      rw [z1]
      simp only
      exact if_neg (by omega)
    have v02 : fR y 0 2 = some q2 := (z5.2.2.1 0 2 (by decide) (fun w => absurd w.2 (by decide))).trans r02
    have v45 : fR y 45 0 = some s := (z5.r hs (by decide)).trans IY.2.1
    refine ⟨q2, v02, ?_⟩
    unfold wp_Wrt_giveFile
    refine ⟨s, v45, nm_e (nm_e ⟨s, gR_at, ?_⟩)⟩
    have r40 : roomOf s = 40000 := snk40 ⟨hsn.2.1, hsn.2.2.1, hsn.2.2.2.2⟩
    have ct : fI (setR (setR y 45 0 (some q2)) 0 2 (some s)) s 1 = nI (z.1 ++ endB z.2).length := z7.ct (by omega)
    rw [ct]
    exact p1 y _ ef z3 z4 (FWq.trans hs FQ (z5.q hs)) z6 z7 z2 z8 z9
end
