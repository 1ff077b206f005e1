/-! write of the class: the columns of a group of rows -/
/-- a column's places, row by row -/
def ACr (E : List SEn) (RS : List (List SEn)) (u : Nat) : List (List Nat) := cutL ((RS.map (colE u)).map List.length) (idx E u)
/-- what the records keep, as the class wants it -/
def WrE (F : List SFd) (E : List SEn) (RS : List (List SEn)) : Prop := WfS F ∧ (∀ f, f < F.length → okT (fNm F f)) ∧ RelR F E RS ∧ (∀ c, c < ncol F → tyC F c < 4 ∧ rF F (lfC F c) ≤ 17 ∧ mdC F c ≤ 17 ∧ ∀ i, i ∈ idx E c → okI (tyC F c) E i) ∧ (∀ ro, ro ∈ RS → tx ro ≤ 20000) ∧ E.length ≤ 10000 ∧ RS.length ≤ 2000
section
variable {F : List SFd} {E : List SEn} {RS : List (List SEn)}
theorem AC_map {u : Nat} (h : RelR F E RS) (hu : u < ncol F) : (ACr E RS u).map (List.map (en E)) = RS.map (colE u) :=
  cutL_map _ _ (by rw [idx_map]; exact h.2.2.1 u hu)
theorem sum_len : ∀ L : List (List SEn), (L.map List.length).sum = L.flatten.length := by
  intro L
  induction L with
  | nil => rfl
  | cons a L ih => rw [List.map_cons, List.sum_cons, List.flatten_cons, List.length_append, ih]
theorem AC_flat {u : Nat} (h : RelR F E RS) (hu : u < ncol F) : (ACr E RS u).flatten = idx E u := by
  refine cutL_flat _ _ ?_
  rw [sum_len, ← h.2.2.1 u hu, ← idx_map, List.length_map]
theorem AC_len {u : Nat} (h : RelR F E RS) (hu : u < ncol F) : (ACr E RS u).length = RS.length := by
  have := congrArg List.length (AC_map h hu)
  rw [List.length_map, List.length_map] at this
  exact this
theorem tx_cole {c : Nat} : ∀ l : List SEn, tx (colE c l) ≤ tx l := by
  intro l
  induction l with
  | nil => exact Nat.le_refl _
  | cons e l ih =>
    rw [colE_cons]
    split
    · show _ + tx (colE c l) ≤ _ + tx l; omega
    · show tx (colE c l) ≤ _ + tx l; omega
theorem HdI_of {r : List Nat} (h : Hd 0 (r.map (en E))) : HdI E r := by
  obtain ⟨e, l', h1, h2, h3⟩ := h
  cases r with
  | nil => exact absurd h1 (by simp)
  | cons i r =>
    rw [List.map_cons] at h1
    injection h1 with a b
    exact ⟨i, r, rfl, by rw [a]; exact h2, fun z hz => h3 _ (by rw [← b]; exact List.mem_map.mpr ⟨z, hz, rfl⟩)⟩
theorem AC_row {u : Nat} {r : List Nat} (h : WrE F E RS) (hu : u < ncol F) (hr : r ∈ ACr E RS u) : HdI E r ∧ txI E r ≤ 20000 := by
  have hm : r.map (en E) ∈ RS.map (colE u) := by rw [← AC_map h.2.2.1 hu]; exact List.mem_map.mpr ⟨r, hr, rfl⟩
  obtain ⟨ro, h1, h2⟩ := List.mem_map.mp hm
  refine ⟨HdI_of (by rw [← h2]; exact (h.2.2.1.2.1 ro h1).2.2 u hu), ?_⟩
  rw [txI_map, ← h2]
  exact Nat.le_trans (tx_cole ro) (h.2.2.2.2.1 ro h1)
/-- the writer at a group of rows, some columns being done -/
def WrI (x : St) (s sc : Nat) (F : List SFd) (E : List SEn) (RS : List (List SEn)) (VL : Nat → Int64) (g k c : Nat) : Prop := LC x ∧ fR x 45 0 = some s ∧ fR x 45 5 = some sc ∧ fR x 45 6 = some 36 ∧ RepC x sc F ∧ (∀ u, u < ncol F → EnW x E (tyC F u) (idx E u)) ∧ fL x 39 = VL ∧ ∀ u, u < ncol F → Chn (fA x 41) (fA x 61 u) ((ACr E RS u).drop (if u < c then k * g + g else k * g)).flatten
theorem WrI.ck {x : St} {s sc g k c u : Nat} {VL : Nat → Int64} (hc : SchId sc) (hw : WfS F) (h : WrI x s sc F E RS VL g k c) (hu : u < ncol F) : CkI x s sc u (lfC F u) (tyC F u) (rF F (lfC F u)) (mdC F u) E VL (idx E u) := by
  obtain ⟨h1, h2, h3, h4, h5, h6, h7, -⟩ := h
  obtain ⟨l1, l2, l3⟩ := lfC_ok hu
  have hF := hw.1
  have hcl := hw.2.1
  obtain ⟨g2, g3, g4, g5, g6, -⟩ := h5.2.2.2.1 _ l1
  have g10 := h5.2.2.2.2 _ l1 l2
  have l3' : ncol (F.take (lfC F u)) = u := l3
  rw [l3'] at g10
  have s10 := sch_st hc (k := 10) (by decide) (by decide)
  have s3 := sch_st hc (k := 3) (by decide) (by decide)
  have s5 := sch_st hc (k := 5) (by decide) (by decide)
  have s6 := sch_st hc (k := 6) (by decide) (by decide)
  refine ⟨h1, h2, h4, ⟨h3, by omega, by omega, s10.2, s3.2, s6.2, s10.1.1, s3.1.1, s6.1.1, h1.s hc (by decide) (by decide), h1.s hc (by decide) (by decide), h1.s hc (by decide) (by decide), g10, ?_, g6⟩, ⟨s10.1, s3.1, s5.1, s6.1, s5.2⟩, h1.s hc (by decide) (by decide), g5, h6 u hu, h7⟩
  rw [g3]
  unfold tyC
  rw [nI_uI]
theorem snk40 {s : Nat} (hsn : s ≠ 55 ∧ s ≠ 58 ∧ s ≠ 147) : roomOf s = 40000 := by
  unfold roomOf
  rw [if_neg (by omega), if_neg (by omega)]
theorem drop_min {α : Type} {L : List α} {n : Nat} : L.drop (min L.length n) = L.drop n := by
  by_cases c : n ≤ L.length
  · rw [Nat.min_eq_right c]
  · rw [Nat.min_eq_left (by omega), List.drop_length, List.drop_eq_nil_of_le (by omega)]
theorem k_cols {s sc most g k : Nat} {VL : Nat → Int64} (hs : SnkId s) (hsn : s ≠ 52 ∧ s ≠ 55 ∧ s ≠ 58 ∧ s ≠ 49 ∧ s ≠ 147) (hc : SchId sc) (hE : WrE F E RS) (hm : most ≤ 1000) (hk : k * g < RS.length) (hg : 1 ≤ g) :
    ∀ d c W D κ t b, c + d = ncol F → TB t b → W.length ≤ 40000 → (∀ t, SnkId t → κ t ≤ roomOf t) → ∃ κ' t' b', Kle κ κ' ∧ TB t' b' ∧ ∀ κ2, Kle κ' κ2 → ∀ (x : St) (post : Int32 → St → Prop) (rec83 : Nat → Int32 → Int32 → Int32 → Int32 → Int32 → Nat → Nat → St → Prop) (l2 l3 l4 : Int32) kb nb, SkS x → Caps x κ → WrI x s sc F E RS VL g k c → TbI x t b → Snk x s W → Snk x 49 D → fR x 0 4 = some sc → KP κ ≤ kb + KP κ2 → NP κ ≤ nb + NP κ2 →
      (∀ y, SkS y → Caps y κ' → FWc s x y → TbI y t' b' → fI y s 5 = 0 → fI y s 6 = 0 → fI y 49 5 = 0 → fI y 49 6 = 0 → colR F RS most g k d c W D = none → post (-1) y) →
      (∀ y k1 n1 z, colR F RS most g k d c W D = some z → SkS y → Caps y κ' → FWc s x y → WrI y s sc F E RS VL g k (ncol F) → TbI y t' b' → Snk y s z.1 → Snk y 49 z.2 → KP κ' ≤ k1 + KP κ2 → NP κ' ≤ n1 + NP κ2 → rec83 0 (nI most) l2 l3 l4 (nI (k + 1)) k1 n1 y) →
      wl_V_write_114 post rec83 (d + 1) 0 (nI most) l2 l3 l4 (nI k) (nI (toG RS g k - k * g)) (nI c) kb nb x := by
  have hw := hE.1
  have hc64 := hw.2.1
  have r40 : roomOf s = 40000 := snk40 ⟨hsn.2.1, hsn.2.2.1, hsn.2.2.2.2⟩
  have e45 : stC 0 7 = 45 := by decide +kernel
  intro d
  induction d with
  | zero =>
    intro c W D κ t b hcd htb hW hκ
    have ec : c = ncol F := by omega
    subst ec
    refine ⟨κ, t, b, Kle.refl hκ, htb, fun κ2 m2 x post rec83 l2 l3 l4 kb nb hK hC hI hT hsW hsD h4 hk1 hn1 p0 p1 => ?_⟩
    unfold wl_V_write_114 j_V_write_114
    refine ⟨sc, h4, ?_⟩
    rw [hI.2.2.2.2.1.2.1]
    refine br_t (by (first | omega | (simp (disch := omega) only [Int32.le_iff_toInt_le, Int32.lt_iff_toInt_lt, z_eq, z_in, nI_toInt, z_cl, z_m1, z_sg, z_255, Int32.reduceToInt] <;> omega) | (simp only [Int32.le_iff_toInt_le, Int32.lt_iff_toInt_lt, z_eq, z_in, z_add, z_sub, z_mul, z_neg, z_nI, z_cl, z_sg, z_255, z_lit, Int32.reduceToInt] <;> omega))) ?_
    rw [nI_1]
    exact p1 x kb nb (W, D) rfl hK hC (FX.refl x) hI hT hsW hsD hk1 hn1
  | succ d ih =>
    intro c W D κ t b hcd htb hW hκ
    have hcl : c < ncol F := by omega
    obtain ⟨y1, y2, y3, y4⟩ := hE.2.2.2.1 c hcl
    have al := AC_len hE.2.2.1 hcl
    have toL : toG RS g k ≤ RS.length := by unfold toG; omega
    have toG' : k * g < toG RS g k := by unfold toG; omega
    have hA : ((ACr E RS c).drop (k * g)).take (toG RS g k - k * g) ++ (ACr E RS c).drop (k * g + g) = (ACr E RS c).drop (k * g) := by
      have e1 : (ACr E RS c).drop (k * g + g) = ((ACr E RS c).drop (k * g)).drop (toG RS g k - k * g) := by
        rw [List.drop_drop, show k * g + (toG RS g k - k * g) = toG RS g k by omega]
        unfold toG
        rw [← al, drop_min]
      rw [e1, List.take_append_drop]
    have lenA : (((ACr E RS c).drop (k * g)).take (toG RS g k - k * g)).length = toG RS g k - k * g := by
      rw [List.length_take, List.length_drop, al]; omega
    have mapA : (((ACr E RS c).drop (k * g)).take (toG RS g k - k * g)).map (List.map (en E)) = rwX RS c (k * g) (toG RS g k) := by
      rw [List.map_take, List.map_drop, AC_map hE.2.2.1 hcl]
      unfold rwX
      rw [List.map_take, List.map_drop]
    have memA : ∀ r, r ∈ ((ACr E RS c).drop (k * g)).take (toG RS g k - k * g) ++ (ACr E RS c).drop (k * g + g) → r ∈ ACr E RS c := fun r hr => by rw [hA] at hr; exact List.mem_of_mem_drop hr
    have subA : ∀ i, i ∈ (((ACr E RS c).drop (k * g)).take (toG RS g k - k * g) ++ (ACr E RS c).drop (k * g + g)).flatten → i ∈ idx E c := fun i hi => by
      obtain ⟨r, h1, h2⟩ := List.mem_flatten.mp hi
      rw [← AC_flat hE.2.2.1 hcl]
      exact List.mem_flatten.mpr ⟨r, memA r h1, h2⟩
    have flA : (((ACr E RS c).drop (k * g)).take (toG RS g k - k * g)).flatten.length ≤ 10000 := by
      have e1 : (ACr E RS c).flatten = ((ACr E RS c).take (k * g)).flatten ++ ((((ACr E RS c).drop (k * g)).take (toG RS g k - k * g)).flatten ++ ((ACr E RS c).drop (k * g + g)).flatten) := by
        rw [← List.flatten_append, hA, ← List.flatten_append, List.take_append_drop]
      have e2 := congrArg List.length e1
      rw [List.length_append, List.length_append, AC_flat hE.2.2.1 hcl] at e2
      have e3 : (idx E c).length ≤ E.length := by
        unfold idx
        exact Nat.le_trans (List.length_filter_le _ _) (by rw [List.length_range]; exact Nat.le_refl _)
      have := hE.2.2.2.2.2.1
      omega
    have flm : (((ACr E RS c).drop (k * g)).take (toG RS g k - k * g)).flatten.map (en E) = (rwX RS c (k * g) (toG RS g k)).flatten := by rw [List.map_flatten, mapA]
    generalize hAA : ((ACr E RS c).drop (k * g)).take (toG RS g k - k * g) = A at *
    have h2000 := hE.2.2.2.2.2.2
    obtain ⟨κ1, t1, b1, m1, htb1, f1⟩ := k_putChunk (κ := κ) (s := s) (t := t) (b := b) (sc := sc) (c := c) (f := lfC F c) (ty := tyC F c) (mr := rF F (lfC F c)) (md := mdC F c) (most := most) (E := E) (VL := VL) (Z := idx E c) (B := W) (D := D) (A := A) (Bq := (ACr E RS c).drop (k * g + g)) hs ⟨hsn.1, hsn.2.1, hsn.2.2.1, hsn.2.2.2.1⟩ htb y1 y2 y3 hm (by omega) (by omega) y4 (fun r hr => (AC_row hE hcl (memA r hr)).1) subA (fun r hr => (AC_row hE hcl (memA r (List.mem_append_left _ hr))).2) flA (by omega) hκ
    rw [lenA, mapA, flm] at f1
    have ecx : chX (tyC F c) (rF F (lfC F c)) (mdC F c) most (toG RS g k - k * g) (rwX RS c (k * g) (toG RS g k)) = ckX F RS most g k c := rfl
    have ecb : ∀ n m, chBX (tyC F c) (mdC F c) n m (rwX RS c (k * g) (toG RS g k)).flatten = cbX F RS g k c n m := fun _ _ => rfl
    rw [ecx] at f1
    simp only [ecb] at f1
    -- what the turn comes to
    have eR : colR F RS most g k (d + 1) c W D = (match ckX F RS most g k c with | none => none | some z => if 40000 < (W ++ z.1).length ∨ 40000 < (D ++ cbX F RS g k c z.1.length z.2).length then none else colR F RS most g k d (c + 1) (W ++ z.1) (D ++ cbX F RS g k c z.1.length z.2)) := by
      simp only [colR]
      cases ckX F RS most g k c <;> rfl
    by_cases good : ∃ C m, ckX F RS most g k c = some (C, m) ∧ (W ++ C).length ≤ 40000 ∧ (D ++ cbX F RS g k c C.length m).length ≤ 40000
    · obtain ⟨C, m, q1, q2, q3⟩ := good
      rw [q1] at eR
      simp only at eR
      rw [if_neg (by omega)] at eR
      obtain ⟨κ3, t3, b3, m3, htb3, f3⟩ := ih (c + 1) (W ++ C) (D ++ cbX F RS g k c C.length m) κ1 t1 b1 (by omega) htb1 q2 (fun t ht => (m1 t ht).2)
      refine ⟨κ3, t3, b3, m1.trans m3, htb3, fun κ2 m2 x post rec83 l2 l3 l4 kb nb hK hC hI hT hsW hsD h4 hk1 hn1 p0 p1 => ?_⟩
      unfold wl_V_write_114 j_V_write_114
      refine ⟨sc, h4, ?_⟩
      rw [hI.2.2.2.2.1.2.1]
      refine br_f (by (first | omega | (simp (disch := omega) only [Int32.le_iff_toInt_le, Int32.lt_iff_toInt_lt, z_eq, z_in, nI_toInt, z_cl, z_m1, z_sg, z_255, Int32.reduceToInt] <;> omega) | (simp only [Int32.le_iff_toInt_le, Int32.lt_iff_toInt_lt, z_eq, z_in, z_add, z_sub, z_mul, z_neg, z_nI, z_cl, z_sg, z_255, z_lit, Int32.reduceToInt] <;> omega))) ?_
      rw [e45]
      refine bseq m1 (m3.trans m2) hk1 hn1 (fun k1 n1 k2 n2 a1 a2 a3 a4 => ?_)
      have hCh := hI.2.2.2.2.2.2.2 c hcl
      rw [if_neg (Nat.lt_irrefl c), ← hA] at hCh
      refine f1 x _ k1 n1 hK hC (hI.ck hc hw hcl) hT hCh hsW hsD a1 a2 (fun y z1 z2 z3 z4 z5 z6 z7 z8 z9 => ?_) (fun y C' m' z1 z2 z3 z4 z5 z6 z7 z8 z9 z10 z11 z12 => ?_)
      · exfalso
        have := z9 C m q1
        omega
      · rw [q1] at z1
        simp only [Option.some.injEq, Prod.mk.injEq] at z1
        obtain ⟨rfl, rfl⟩ := z1
        refine ⟨fun _ => ?_, fun z => absurd z (by decide)⟩
        rw [nI_1]
        have Iy : WrI y s sc F E RS VL g k (c + 1) := by
          obtain ⟨i1, i2, i3, i4, i5, i6, i7, i8⟩ := id hI
          have q41 := (st41.w (by decide) hs hK z6).1
          refine ⟨fun r hr => (z6.n hr).trans (i1 r hr), (z6.r hs (by decide)).trans i2, (z6.r hs (by decide)).trans i3, (z6.r hs (by decide)).trans i4, i5.w hc hs hK z6, fun u hu => (i6 u hu).w hs hK z6, z7.2.2.2.2.2.2.2.2, fun u hu => ?_⟩
          by_cases e : u = c
          · subst e
            rw [if_pos (Nat.lt_succ_self u)]
            exact z9
          · rw [z10 u e, q41]
            have := i8 u hu
            by_cases lt : u < c
            · rw [if_pos lt] at this
              rw [if_pos (by omega)]
              exact this
            · rw [if_neg lt] at this
              rw [if_neg (by omega)]
              exact this
        have h4y : fR y 0 4 = some sc := (z6.2.2.1 0 4 (by decide) (fun z => absurd z.2 (by decide))).trans h4
        exact f3 κ2 m2 y post rec83 l2 l3 l4 k2 n2 z4 z5 Iy z8 z11 z12 h4y a3 a4 (fun w w1 w2 w3 w4 w5 w6 w7 w8 w9 => p0 w w1 w2 (FWc.trans hs z6 w3) w4 w5 w6 w7 w8 (eR.trans w9)) (fun w kk nn zz w1 w2 w3 w4 w5 w6 w7 w8 w9 w10 => p1 w kk nn zz (eR.trans w1) w2 w3 (FWc.trans hs z6 w4) w5 w6 w7 w8 w9 w10)
    · have eN : colR F RS most g k (d + 1) c W D = none := by
        rw [eR]
        cases e : ckX F RS most g k c with
        | none => rfl
        | some z =>
          simp only
          refine if_pos ?_
          by_cases a : 40000 < (W ++ z.1).length
          · exact Or.inl a
          · refine Or.inr ?_
            by_cases b : 40000 < (D ++ cbX F RS g k c z.1.length z.2).length
            · exact b
            · exact absurd ⟨z.1, z.2, e, by omega, by omega⟩ good
      refine ⟨κ1, t1, b1, m1, htb1, fun κ2 m2 x post rec83 l2 l3 l4 kb nb hK hC hI hT hsW hsD h4 hk1 hn1 p0 p1 => ?_⟩
      unfold wl_V_write_114 j_V_write_114
      refine ⟨sc, h4, ?_⟩
      rw [hI.2.2.2.2.1.2.1]
      refine br_f (by (first | omega | (simp (disch := omega) only [Int32.le_iff_toInt_le, Int32.lt_iff_toInt_lt, z_eq, z_in, nI_toInt, z_cl, z_m1, z_sg, z_255, Int32.reduceToInt] <;> omega) | (simp only [Int32.le_iff_toInt_le, Int32.lt_iff_toInt_lt, z_eq, z_in, z_add, z_sub, z_mul, z_neg, z_nI, z_cl, z_sg, z_255, z_lit, Int32.reduceToInt] <;> omega))) ?_
      rw [e45]
      refine bseq m1 m2 hk1 hn1 (fun k1 n1 k2 n2 a1 a2 a3 a4 => ?_)
      have hCh := hI.2.2.2.2.2.2.2 c hcl
      rw [if_neg (Nat.lt_irrefl c), ← hA] at hCh
      refine f1 x _ k1 n1 hK hC (hI.ck hc hw hcl) hT hCh hsW hsD a1 a2 (fun y z1 z2 z3 z4 z5 z6 z7 z8 z9 => ?_) (fun y C' m' z1 z2 z3 z4 z5 z6 z7 z8 z9 z10 z11 z12 => ?_)
      · exact ⟨fun z => absurd rfl z, fun _ => p0 y z1 z2 z3 z4 z5 z6 z7 z8 eN⟩
      · exact absurd ⟨C', m', z1, by omega, z3⟩ good
end
