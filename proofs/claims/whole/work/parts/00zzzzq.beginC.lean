/-! write of the class: its beginning -/
theorem mag_len : magB.length = 4 := rfl
theorem mag_by : ∀ b, b ∈ magB → b < 256 := by decide
theorem mag_at : ∀ i, i < 4 → magicI i = (nI (magB.getD i 0)).toInt8.toInt32 := by decide +kernel
theorem k_magic {κ : Nat → Nat} {s : Nat} {B : List Nat} (hs : SnkId s) (hκ : ∀ t, SnkId t → κ t ≤ roomOf t) : App κ s B magB (fun _ => True) (fun post kb nb x => wp_Snk_putAllT post s 0 4 kb nb x) := by
  refine App.of hκ (fun x0 k0 c0 s0 _ => ⟨roomK κ s B 4, roomK_le hs k0 c0 s0.sn, fun x post kb nb hK hCp h hp hk hn p => ?_⟩)
  have hl : (B ++ magB).length = B.length + 4 := List.length_append
  show wp_Snk_putAllT post s 0 4 kb nb x
  unfold wp_Snk_putAllT
  refine ⟨kb, nb, 0, 0, by omega, by omega, ?_⟩
  refine k_hasRoom (m := 4) hs hK hCp h.sn (by decide) hk hn (fun c y q y1 y2 y3 y4 y5 y6 => br_f (by decide) ⟨q, y5, ?_⟩) (fun c y y1 y2 y3 y4 y5 => br_t rfl (p y y1 y2 y3.x ⟨(frK5 y3 (by decide)).trans h.1, (frK5 y3 (by decide)).trans h.2.1, Or.inr ⟨by rw [hl]; omega, y4, y5⟩⟩))
  have cq := cap31 y1 hs y5
  have e1 := y4.2.1
  rw [e1, nI_clamp (by omega), show (0 : Int32).toNatClampNeg = 0 from rfl, show (4 : Int32).toNatClampNeg = 4 from rfl]
  refine ⟨⟨by decide, nI_pos (by omega), by decide, by decide, y6, fun i hi => by rw [Nat.zero_add, mag_at i hi]; exact pk_fb _⟩, nm_e ?_⟩
  have hF : sb_Fit (va_cpy magicI (fA y q) 0 B.length 4) := fun j => by
    by_cases z : B.length ≤ j ∧ j < B.length + 4
    · rw [pk_cpy_in z.1 z.2, Nat.zero_add, mag_at _ (by omega)]; exact pk_fb _
    · rw [pk_cpy_out (by omega)]; exact cq.2 j
  have hb' : ∀ b, b ∈ B ++ magB → b < 256 := fun b hb => by
    rcases List.mem_append.mp hb with z | z
    · exact y4.1 b z
    · exact mag_by b z
  have hD : ∀ i, i < (B ++ magB).length → va_cpy magicI (fA y q) 0 B.length 4 i = (nI ((B ++ magB).getD i 0)).toInt8.toInt32 := fun i hi => by
    rw [hl] at hi
    by_cases z : i < B.length
    · rw [pk_cpy_out (Or.inl z), getD_app1 z]; exact y4.row y5 i z
    · rw [pk_cpy_in (by omega) (by omega), getD_app2 (by omega), Nat.zero_add, mag_at _ (by omega)]
  obtain ⟨o1, o2, o3⟩ := HL.set (D := B ++ magB) (f := va_cpy magicI (fA y q) 0 B.length 4) y1 hs y4 y5 (by rw [hl]; exact y6) hF hb' hD
  rw [hl] at o1 o2 o3
  refine nm_r (e' := setI (setW y q (va_cpy magicI (fA y q) 0 B.length 4)) s 1 (nI (B.length + 4))) (by rw [show fI (setW y q (va_cpy magicI (fA y q) 0 B.length 4)) s 1 = fI y s 1 from rfl, e1, show (4 : Int32) = nI 4 from rfl, nI_add]) (p _ o1 y2 (FK.trans hs y3.x o2.x) ⟨?_, ?_, Or.inl ⟨by rw [hl]; exact c, o3⟩⟩)
  · exact (frK5 o2 (by decide)).trans ((frK5 y3 (by decide)).trans h.1)
  · exact (frK5 o2 (by decide)).trans ((frK5 y3 (by decide)).trans h.2.1)
theorem sch_st0 : ∀ s, SchId s → ∀ k, k < 13 → 2 ≤ k → stC s k < 152 ∧ ¬ (stC s k = 3 ∨ stC s k = 6 ∨ stC s k = 9 ∨ stC s k = 48 ∨ stC s k = 51 ∨ stC s k = 54 ∨ stC s k = 57 ∨ stC s k = 60 ∨ stC s k = 149) := by
  rintro s (rfl | rfl | rfl) <;> decide +kernel
theorem sch_st1 : ∀ s, SchId s → ∀ k, k < 13 → 2 ≤ k → stC s k ≠ stC 1 4 ∧ stC s k ≠ stC 4 4 ∧ stC s k ≠ stC 7 4 ∧ stC s k ≠ stC 46 4 ∧ stC s k ≠ stC 49 4 := by
  rintro s (rfl | rfl | rfl) <;> decide +kernel
theorem sch_st2 : ∀ s, SchId s → ∀ k, k < 13 → 2 ≤ k → stC s k ≠ stC 52 4 ∧ stC s k ≠ stC 55 4 ∧ stC s k ≠ stC 58 4 ∧ stC s k ≠ stC 147 4 ∧ (stC s k < 61 ∨ 69 < stC s k) := by
  rintro s (rfl | rfl | rfl) <;> decide +kernel
theorem sch_st {s k : Nat} (hs : SchId s) (h2 : 2 ≤ k) (h12 : k ≤ 12) : stRow (stC s k) ∧ (stC s k < 61 ∨ 69 < stC s k) := by
  obtain ⟨a, b⟩ := sch_st0 s hs k (by omega) h2
  obtain ⟨c1, c2, c3, c4, c5⟩ := sch_st1 s hs k (by omega) h2
  obtain ⟨d1, d2, d3, d4, d5⟩ := sch_st2 s hs k (by omega) h2
  exact ⟨st_of a b ⟨c1, c2, c3, c4, c5, d1, d2, d3, d4⟩, d5⟩
theorem RepC.cg2 {x y : St} {s : Nat} {F : List SFd} (h : RepC x s F) (hI : ∀ k, k = 0 ∨ k = 1 → fI y s k = fI x s k) (hA : ∀ k, 2 ≤ k → k ≤ 12 → fA y (stC s k) = fA x (stC s k)) : RepC y s F := by
  unfold RepC
  rw [hI 0 (by decide), hI 1 (by decide), hA 2 (by decide) (by decide), hA 3 (by decide) (by decide), hA 4 (by decide) (by decide), hA 5 (by decide) (by decide), hA 6 (by decide) (by decide), hA 7 (by decide) (by decide), hA 8 (by decide) (by decide), hA 9 (by decide) (by decide), hA 10 (by decide) (by decide), hA 11 (by decide) (by decide), hA 12 (by decide) (by decide)]
  exact h
theorem sch_ns {s t : Nat} (hs : SchId s) (ht : SnkId t) : s ≠ t ∧ s ≠ 45 := by unfold SchId at hs; unfold SnkId at ht; omega
theorem RepC.k {x y : St} {s t : Nat} {F : List SFd} (hs : SchId s) (ht : SnkId t) (hK : SkS x) (f : FK t x y) (h : RepC x s F) : RepC y s F :=
  h.cg2 (fun k _ => f.1 s k (fun z => (sch_ns hs ht).1 z.1)) (fun k h2 h12 => ((sch_st hs h2 h12).1.keep ht hK f).1)
theorem RepC.w {x y : St} {s sc : Nat} {F : List SFd} (hc : SchId sc) (hs : SnkId s) (hK : SkS x) (f : FWc s x y) (h : RepC x sc F) : RepC y sc F :=
  h.cg2 (fun k _ => f.1 sc k (fun z => by have := sch_ns hc hs; unfold SchId at hc; omega)) (fun k h2 h12 => ((sch_st hc h2 h12).1.w (sch_st hc h2 h12).2 hs hK f).1)
def fdR (F : List SFd) : Nat → Nat → List Nat
  | 0, _ => []
  | d + 1, f => fdB F f ++ fdR F d (f + 1)
theorem fdR_eq {F : List SFd} : ∀ d f, fdsB F (f + d) = fdsB F f ++ fdR F d f := by
  intro d
  induction d with
  | zero => intro f; show fdsB F f = fdsB F f ++ []; rw [List.append_nil]
  | succ d ih =>
    intro f
    rw [show f + (d + 1) = (f + 1) + d by omega, ih (f + 1)]
    show fdsB F f ++ fdB F f ++ fdR F d (f + 1) = fdsB F f ++ (fdB F f ++ fdR F d (f + 1))
    rw [List.append_assoc]
/-- what the beginning looks at -/
def BgI (x : St) (sc : Nat) (F : List SFd) (cnt : Nat) : Prop := LC x ∧ RepC x sc F ∧ fR x 45 5 = some sc ∧ fR x 45 6 = some 36 ∧ fI x 36 0 = nI cnt
theorem BgI.k {sc cnt : Nat} {F : List SFd} (hc : SchId sc) : ∀ x y, SkS x → FK 49 x y → BgI x sc F cnt → BgI y sc F cnt := fun x y hK f h =>
  ⟨fun r hr => (f.2.2.2.2.2.1 r hr).trans (h.1 r hr), h.2.1.k hc id49 hK f, (f.2.2.1 45 5 id (fun z => absurd z.1 (by decide))).trans h.2.2.1, (f.2.2.1 45 6 id (fun z => absurd z.1 (by decide))).trans h.2.2.2.1, (f.1 36 0 (by decide)).trans h.2.2.2.2⟩
theorem k_begF {sc cnt ng : Nat} {F : List SFd} (hc : SchId sc) (hw : WfS F) (hN : ∀ f, f < F.length → okT (fNm F f)) (hcnt : cnt ≤ 2000) (hng : ng ≤ 2000) : ∀ d f D κ, f + d = F.length → (∀ t, SnkId t → κ t ≤ roomOf t) → App κ 49 D (fdR F d f ++ (varB cnt ++ varB ng)) (fun x => BgI x sc F cnt) (fun post kb nb x => wl_Wrt_begin_72 post (d + 1) 45 sc 36 (nI ng) (nI f) kb nb x) := by
  have hF := hw.1
  have trv : ∀ x y : St, SkS x → FK 49 x y → True → True := fun _ _ _ _ _ => trivial
  have up : ∀ {κ κ1 : Nat → Nat}, Kle κ κ1 → ∀ t, SnkId t → κ1 t ≤ roomOf t := fun m t ht => (m t ht).2
  have e49 : stC 45 1 = 49 := by decide +kernel
  intro d
  induction d with
  | zero =>
    intro f D κ hf hκ
    have ef : f = F.length := by omega
    subst ef
    obtain ⟨κ1, m1, f1⟩ := (k_varint (κ := κ) (s := 49) (B := D) (v := lN cnt) (Pre := fun _ => True) id49 trv hκ).k
    obtain ⟨κ2, m2, f2⟩ := (k_varint (κ := κ1) (s := 49) (B := D ++ varB (uL (lN cnt))) (v := lN ng) (Pre := fun _ => True) id49 trv (up m1)).k
    refine ⟨κ2, m1.trans m2, fun x post kb nb hK hC hD hI hk hn p => ?_⟩
    show wl_Wrt_begin_72 post 1 45 sc 36 (nI ng) (nI F.length) kb nb x
    unfold wl_Wrt_begin_72 j_Wrt_begin_72
    rw [e49]
    refine ⟨sc, hI.2.2.1, ?_⟩
    rw [hI.2.1.1]
    refine br_t (by (first | omega | (simp (disch := omega) only [Int32.le_iff_toInt_le, Int32.lt_iff_toInt_lt, z_eq, z_in, nI_toInt, z_cl, z_m1, z_sg, z_255, Int32.reduceToInt] <;> omega) | (simp only [Int32.le_iff_toInt_le, Int32.lt_iff_toInt_lt, z_eq, z_in, z_add, z_sub, z_mul, z_neg, z_nI, z_cl, z_sg, z_255, z_lit, Int32.reduceToInt] <;> omega))) ⟨36, hI.2.2.2.1, ?_⟩
    rw [hI.2.2.2.2, show (nI cnt).toInt64 = lN cnt from nI_l (by omega), show (nI ng).toInt64 = lN ng from nI_l (by omega)]
    refine f1 κ2 m2 x _ kb nb hK hC hD trivial hk hn (fun y1 k1 n1 s1 c1 t1 a1 bk1 bn1 => ?_)
    refine f2 κ2 (Kle.refl (up m2)) y1 (fun _ _ y => post y) k1 n1 s1 c1 a1 trivial bk1 bn1 (fun y2 k2 n2 s2 c2 t2 a2 bk2 bn2 => p y2 s2 c2 (FK.trans id49 t1 t2) ?_)
    rw [uL_lN (by omega), uL_lN (by omega)] at a2
    show Snk y2 49 (D ++ ([] ++ (varB cnt ++ varB ng)))
    rw [List.nil_append, ← List.append_assoc]
    exact a2
  | succ d ih =>
    intro f D κ hf hκ
    have hfl : f < F.length := by omega
    have nm := hN f hfl
    have wl := (hw.2.2.2.1 f hfl).2.2.2.2
    have tl : (tB (fNm F f)).length = (fNm F f).length := tB_len _
    obtain ⟨κ1, m1, f1⟩ := (k_put (κ := κ) (s := 49) (b := uI (fKd F f + 3 * fTy F f) % 256) (B := D) (w := fKd F f + 3 * fTy F f) (Pre := fun _ => True) id49 hκ (Nat.mod_lt _ (by decide)) (by
      have := nI_sg (uI (fKd F f + 3 * fTy F f))
      rw [nI_uI] at this
      exact this)).k
    obtain ⟨κ2, m2, f2⟩ := (k_varint (κ := κ1) (s := 49) (B := D ++ [uI (fKd F f + 3 * fTy F f) % 256]) (v := (fPa F f + 1).toInt64) (Pre := fun _ => True) id49 trv (up m1)).k
    obtain ⟨κ3, m3, f3⟩ := (k_varint (κ := κ2) (s := 49) (B := D ++ [uI (fKd F f + 3 * fTy F f) % 256] ++ varB (uL (fPa F f + 1).toInt64)) (v := lN (fNm F f).length) (Pre := fun _ => True) id49 trv (up m2)).k
    obtain ⟨κ4, m4, f4⟩ := (k_putAll (κ := κ3) (s := 49) (r := stC sc 12) (a := f * 16) (B := D ++ [uI (fKd F f + 3 * fTy F f) % 256] ++ varB (uL (fPa F f + 1).toInt64) ++ varB (uL (lN (fNm F f).length))) (C := tB (fNm F f)) id49 (up m3) (by omega) (by omega)).k
    obtain ⟨κ5, m5, f5⟩ := ih (f + 1) (D ++ [uI (fKd F f + 3 * fTy F f) % 256] ++ varB (uL (fPa F f + 1).toInt64) ++ varB (uL (lN (fNm F f).length)) ++ tB (fNm F f)) κ4 (by omega) (up m4)
    refine ⟨κ5, m1.trans (m2.trans (m3.trans (m4.trans m5))), fun x post kb nb hK hC hD hI hk hn p => ?_⟩
    show wl_Wrt_begin_72 post (d + 1 + 1) 45 sc 36 (nI ng) (nI f) kb nb x
    have l2 : fN x (stC sc 2) = 128 := hI.1.s hc (by decide) (by decide)
    have l3 : fN x (stC sc 3) = 128 := hI.1.s hc (by decide) (by decide)
    obtain ⟨g2, g3, -⟩ := hI.2.1.2.2.2.1 f hfl
    unfold wl_Wrt_begin_72 j_Wrt_begin_72
    rw [e49]
    refine ⟨sc, hI.2.2.1, ?_⟩
    rw [hI.2.1.1]
    refine br_f (by (first | omega | (simp (disch := omega) only [Int32.le_iff_toInt_le, Int32.lt_iff_toInt_lt, z_eq, z_in, nI_toInt, z_cl, z_m1, z_sg, z_255, Int32.reduceToInt] <;> omega) | (simp only [Int32.le_iff_toInt_le, Int32.lt_iff_toInt_lt, z_eq, z_in, z_add, z_sub, z_mul, z_neg, z_nI, z_cl, z_sg, z_255, z_lit, Int32.reduceToInt] <;> omega))) ⟨sc, hI.2.2.1, vp_in_nI (by omega) (by omega), sc, hI.2.2.1, vp_in_nI (by omega) (by omega), ?_⟩
    rw [rA_nI (by omega), rA_nI (by omega), g2, g3]
    refine f1 κ5 (m2.trans (m3.trans (m4.trans m5))) x _ kb nb hK hC hD trivial hk hn (fun y1 k1 n1 s1 c1 t1 a1 bk1 bn1 => ?_)
    have I1 := BgI.k hc x y1 hK t1 hI
    have l4 : fN y1 (stC sc 4) = 128 := I1.1.s hc (by decide) (by decide)
    obtain ⟨-, -, g4, -⟩ := I1.2.1.2.2.2.1 f hfl
    refine ⟨sc, I1.2.2.1, vp_in_nI (by omega) (by omega), ?_⟩
    rw [rA_nI (by omega), g4]
    refine f2 κ5 (m3.trans (m4.trans m5)) y1 _ k1 n1 s1 c1 a1 trivial bk1 bn1 (fun y2 k2 n2 s2 c2 t2 a2 bk2 bn2 => ?_)
    have I2 := BgI.k hc y1 y2 s1 t2 I1
    have l11 : fN y2 (stC sc 11) = 128 := I2.1.s hc (by decide) (by decide)
    obtain ⟨-, -, -, -, -, -, -, -, g11, -⟩ := I2.2.1.2.2.2.1 f hfl
    refine ⟨sc, I2.2.2.1, vp_in_nI (by omega) (by omega), ?_⟩
    rw [rA_nI (by omega), g11, show (nI (fNm F f).length).toInt64 = lN (fNm F f).length from nI_l (by omega)]
    refine f3 κ5 (m4.trans m5) y2 _ k2 n2 s2 c2 a2 trivial bk2 bn2 (fun y3 k3 n3 s3 c3 t3 a3 bk3 bn3 => ?_)
    have I3 := BgI.k hc y2 y3 s2 t3 I2
    have l11' : fN y3 (stC sc 11) = 128 := I3.1.s hc (by decide) (by decide)
    have l12 : fN y3 (stC sc 12) = 2048 := I3.1.s hc (by decide) (by decide)
    obtain ⟨-, -, -, -, -, -, -, -, g11', g12⟩ := I3.2.1.2.2.2.1 f hfl
    refine ⟨sc, I3.2.2.1, sc, I3.2.2.1, vp_in_nI (by omega) (by omega), ?_⟩
    rw [rA_nI (by omega), g11', show nI f * 16 = nI (f * 16) from by rw [show (16 : Int32) = nI 16 from rfl, nI_mul], ← tl]
    have r12 := (sch_st hc (k := 12) (by decide) (by decide)).1
    refine f4 κ5 m5 y3 _ k3 n3 s3 c3 a3 ⟨⟨by omega, by omega, fun b hb => ?_, fun i hi => ?_⟩, Or.inl r12.1, stRow_ne id49 s3 r12⟩ bk3 bn3 (fun y4 k4 n4 s4 c4 t4 a4 bk4 bn4 => ?_)
    · obtain ⟨v, hv, rfl⟩ := List.mem_map.mp hb
      obtain ⟨j, hj, rfl⟩ := List.getElem_of_mem hv
      have := nm.2 j hj
      rw [List.getD_eq_getElem?_getD, List.getElem?_eq_getElem hj] at this
      exact uI_by this
    · rw [tl] at hi
      rw [show f * 16 + i = 16 * f + i by omega, g12 i hi]
      have : (tB (fNm F f)).getD i 0 = uI ((fNm F f).getD i 0) := by
        unfold tB
        rw [List.getD_eq_getElem?_getD, List.getElem?_map, List.getElem?_eq_getElem hi, List.getD_eq_getElem?_getD, List.getElem?_eq_getElem hi]
        rfl
      rw [this, nI_uI]
    · have I4 := BgI.k hc y3 y4 s3 t4 I3
      rw [nI_1]
      refine f5 y4 post k4 n4 s4 c4 a4 I4 bk4 bn4 (fun z z1 z2 z3 z4 => p z z1 z2 (FK.trans id49 t1 (FK.trans id49 t2 (FK.trans id49 t3 (FK.trans id49 t4 z3)))) ?_)
      rw [uL_lN (by omega)] at z4
      show Snk z 49 (D ++ (fdB F f ++ fdR F d (f + 1) ++ (varB cnt ++ varB ng)))
      unfold fdB
      simp only [List.append_assoc] at z4 ⊢
      exact z4
