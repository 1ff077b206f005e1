/-! entries of records: column, repetition level, definition level, number, bytes -/
abbrev SEn : Type := Nat × Nat × Nat × Int64 × List Int32
def en0 : SEn := (0, 0, 0, 0, [])
/-- the columns ahead of a field -/
def cB (F : List SFd) (f : Nat) : Nat := ncol (F.take f)
def rF (F : List SFd) (f : Nat) : Nat := upS (wRep (fKd F)) (fPa F) (nI f)
def dG (F : List SFd) (g : Int32) : Nat := upS (wDef (fKd F)) (fPa F) g
def pB (F : List SFd) (f : Nat) : Nat := pst (fPa F) f F.length
def pG (F : List SFd) (g : Int32) : Nat := if g = -1 then F.length else pB F g.toNatClampNeg
def fG (g : Int32) : Nat := if g = -1 then 0 else g.toNatClampNeg + 1
/-- where the fields of a group go on behind field fr - 1 (0: at its first) -/
def fcO (F : List SFd) (g : Int32) (fr : Nat) : Nat := if fr = 0 then fG g else pB F (fr - 1)
/-- the columns of the fields from a to b lack -/
def misE (F : List SFd) (a b r : Nat) (g : Int32) : List SEn := (List.range (cB F b - cB F a)).map (fun i => (cB F a + i, r, dG F g, (0 : Int64), ([] : List Int32)))
theorem cB_le (F : List SFd) (f : Nat) : cB F f ≤ ncol F := ncol_take F f
theorem cB_mono {F : List SFd} {a b : Nat} (h : a ≤ b) : cB F a ≤ cB F b := by
  unfold cB
  rw [show F.take a = (F.take b).take a by rw [List.take_take, Nat.min_eq_left h]]
  exact ncol_take _ _
theorem misE_len {F : List SFd} {a b r : Nat} {g : Int32} : (misE F a b r g).length = cB F b - cB F a := by unfold misE; rw [List.length_map, List.length_range]
abbrev EGr : Type := Nat → Int32 → Nat → List SNd → Nat → List SEn
section Emit
variable (T : Nat → Int32) (n : Nat) (F : List SFd) (P : PGr) (Q : EGr)
def eVal (k p f : Nat) (L : List SNd) (r : Nat) : List SEn :=
  if fTy F f = 4 then Q (skip T n k) (nI f) L.length (L ++ [(nI p, nI f, 0, [])]) r
  else [(cB F f, r, dG F (nI f), ((pVal T n F P k p f L).2.2.getD L.length (0, 0, 0, [])).2.2.1, ((pVal T n F P k p f L).2.2.getD L.length (0, 0, 0, [])).2.2.2)]
def eRow (p f : Nat) : Nat → Nat → List SNd → Nat → List SEn
  | 0, _, _, _ => []
  | d + 1, k, L, r => eVal T n F P Q k p f L r ++ (if skip T n (pVal T n F P k p f L).2.1 < n ∧ T (skip T n (pVal T n F P k p f L).2.1) = 44 then eRow p f d (skip T n (pVal T n F P k p f L).2.1 + 1) (pVal T n F P k p f L).2.2 (rF F f) else [])
def eVals (k p f : Nat) (L : List SNd) (r : Nat) : List SEn :=
  if fKd F f = 2 then
    (if skip T n (skip T n k + 1) < n ∧ T (skip T n (skip T n k + 1)) = 93 then misE F f (pB F f) r (fPa F f) else eRow T n F P Q p f (n + 1) (skip T n k + 1) L r)
  else eVal T n F P Q k p f L r
def eFld (g : Int32) (p : Nat) : Nat → Nat → Nat → Bool → List SNd → Nat → List SEn
  | 0, _, _, _, _, _ => []
  | d + 1, k, fr, first, L, r =>
    if first = true ∧ skip T n k < n ∧ T (skip T n k) = 125 then misE F (fcO F g fr) (pG F g) r g
    else
      let f := (fdF F g (rowL T (skip T n k) (wln T n (skip T n k)))).toNatClampNeg
      let k3 := skip T n (skip T n k + wln T n (skip T n k)) + 1
      let v := pVals T n F P k3 p f L
      misE F (fcO F g fr) f r g ++ eVals T n F P Q k3 p f L r ++ (if skip T n v.2.1 < n ∧ T (skip T n v.2.1) = 44 then eFld g p d (skip T n v.2.1 + 1) (f + 1) false v.2.2 r else misE F (pB F f) (pG F g) r g)
end Emit
/-- the entries of a RECORD, or of a group's value -/
def eGrp (T : Nat → Int32) (n : Nat) (F : List SFd) : Nat → EGr
  | 0 => fun _ _ _ _ _ => []
  | d + 1 => fun k g p L r => eFld T n F (pGrp T n F d) (eGrp T n F d) g p 200 (skip T n k + 1) 0 true L r
/-! the class: entries -/
def txC (F : List SFd) (c : Nat) : Prop := ∃ f, f < F.length ∧ fTy F f = 3 ∧ cB F f = c
/-- a long of a column stands for a number or for bytes -/
def VlC (x : St) (F : List SFd) (t c : Nat) (v w : Int64) (b : List Int32) : Prop := (¬ txC F c → v = w) ∧ (txC F c → b.length ≤ 255 ∧ ∃ a, v = lN (256 * a + b.length) ∧ a + b.length ≤ t ∧ ∀ j, j < b.length → fA x 42 (a + j) = (b.getD j 0).toInt8.toInt32 ∧ 0 ≤ b.getD j 0 ∧ b.getD j 0 ≤ 255)
def EnC (x : St) (F : List SFd) (t i : Nat) (e : SEn) : Prop := fA x 40 i = nI e.1 ∧ fA x 37 i = nI e.2.1 ∧ fA x 38 i = nI e.2.2.1 ∧ e.1 < 64 ∧ e.2.1 < 128 ∧ e.2.2.1 < 128 ∧ VlC x F t e.1 (fL x 39 i) e.2.2.2.1 e.2.2.2.2
def RcC (x : St) (F : List SFd) (E : List SEn) (t : Nat) : Prop := fI x 36 3 = nI E.length ∧ fI x 36 4 = nI t ∧ ∀ i, i < E.length → i < 10000 → EnC x F t i (E.getD i en0)
/-- nothing but the scan and what is fresh of the records has changed -/
def FrZ (e0 t0 : Nat) (x y : St) : Prop := (∀ o k, ¬ (o = 10 ∨ o = 36 ∧ (k = 3 ∨ k = 4)) → y.1 o k = x.1 o k) ∧ (∀ o k, ¬ o = 10 → y.2.1 o k = x.2.1 o k) ∧ y.2.2.1 = x.2.2.1 ∧ (∀ a, ¬ (a = 37 ∨ a = 38 ∨ a = 40 ∨ a = 42) → y.2.2.2.1 a = x.2.2.2.1 a) ∧ (∀ a i, i < (if a = 42 then t0 else e0) → y.2.2.2.1 a i = x.2.2.2.1 a i) ∧ (∀ a, a ≠ 39 → y.2.2.2.2.1 a = x.2.2.2.2.1 a) ∧ (∀ i, i < e0 → y.2.2.2.2.1 39 i = x.2.2.2.2.1 39 i) ∧ y.2.2.2.2.2 = x.2.2.2.2.2
theorem FrZ.refl (e0 t0 : Nat) (x : St) : FrZ e0 t0 x x := ⟨fun _ _ _ => rfl, fun _ _ _ => rfl, rfl, fun _ _ => rfl, fun _ _ _ => rfl, fun _ _ => rfl, fun _ _ => rfl, rfl⟩
theorem FrZ.trans {e0 t0 : Nat} {x y z : St} (h : FrZ e0 t0 x y) (k : FrZ e0 t0 y z) : FrZ e0 t0 x z := by
  obtain ⟨h1, h2, h3, h4, h5, h6, h7, h8⟩ := h
  obtain ⟨k1, k2, k3, k4, k5, k6, k7, k8⟩ := k
  exact ⟨fun o i c => (k1 o i c).trans (h1 o i c), fun o i c => (k2 o i c).trans (h2 o i c), k3.trans h3, fun a c => (k4 a c).trans (h4 a c), fun a i c => (k5 a i c).trans (h5 a i c), fun a c => (k6 a c).trans (h6 a c), fun i c => (k7 i c).trans (h7 i c), k8.trans h8⟩
theorem FrT.z {e0 t0 : Nat} {x y : St} (h : FrT x y) : FrZ e0 t0 x y := by
  have e := h.2.2
  exact ⟨fun o k c => h.1 o k (fun z => c (Or.inl z)), h.2.1, by rw [e], fun a _ => by rw [e], fun a i _ => by rw [e], fun a _ => by rw [e], fun i _ => by rw [e], by rw [e]⟩
theorem FrB.z {e0 t0 lo hi : Nat} {x y : St} (h : FrB 42 lo hi x y) (ht : t0 ≤ lo) : FrZ e0 t0 x y := by
  obtain ⟨h1, h2, h3, h4, h5, h6⟩ := h
  refine ⟨fun o k c => h1 o k (fun z => c (Or.inl z)), h2, h3, fun a c => h4 a (fun z => c (by omega)), fun a i c => ?_, fun a _ => by rw [h6], fun i _ => by rw [h6], by rw [h6]⟩
  by_cases d : a = 42
  · subst d
    rw [if_pos rfl] at c
    exact h5 i (Or.inl (by omega))
  · rw [h4 a d]
theorem FrZ.i {e0 t0 : Nat} {x : St} {k : Nat} {v : Int32} (h : k = 3 ∨ k = 4) : FrZ e0 t0 x (setI x 36 k v) := by
  refine ⟨fun o j c => ?_, fun _ _ _ => rfl, rfl, fun _ _ => rfl, fun _ _ _ => rfl, fun _ _ => rfl, fun _ _ => rfl, rfl⟩
  show (if o = 36 ∧ j = k then v else x.1 o j) = _
  rw [if_neg (fun z => c (Or.inr ⟨z.1, by rw [z.2]; exact h⟩))]
theorem FrZ.a {e0 t0 r i : Nat} {x : St} {v : Int32} (h : r = 37 ∨ r = 38 ∨ r = 40) (hi : e0 ≤ i) (hb : i < 2 ^ 31) : FrZ e0 t0 x (setA x r (nI i) v) := by
  refine ⟨fun _ _ _ => rfl, fun _ _ _ => rfl, rfl, fun a c => gA_ne (fun z => c (by omega)), fun a j c => ?_, fun _ _ => rfl, fun _ _ => rfl, rfl⟩
  show fA (setA x r (nI i) v) a j = _
  by_cases d : a = r
  · subst d
    rw [if_neg (by omega)] at c
    rw [gA_at, nI_clamp hb, upd_ne (by omega)]
  · rw [gA_ne d]
theorem FrZ.l {e0 t0 i : Nat} {x : St} {v : Int64} (hi : e0 ≤ i) (hb : i < 2 ^ 31) : FrZ e0 t0 x (setL x 39 (nI i) v) := by
  refine ⟨fun _ _ _ => rfl, fun _ _ _ => rfl, rfl, fun _ _ => rfl, fun _ _ _ => rfl, fun a c => ?_, fun j c => ?_, rfl⟩
  · show (if a = 39 then _ else x.2.2.2.2.1 a) = _
    rw [if_neg c]
  · show fL (setL x 39 (nI i) v) 39 j = _
    rw [gL_at, nI_clamp hb, updL_ne (by omega)]
theorem LC.z {e0 t0 : Nat} {x y : St} (h : LC x) (f : FrZ e0 t0 x y) : LC y := by
  intro r hr
  show y.2.2.2.2.2 r = _
  rw [f.2.2.2.2.2.2.2]
  exact h r hr
theorem sch_far0 : ∀ s, SchId s → s ≠ 10 ∧ s ≠ 36 ∧ ∀ k, k < 13 → 2 ≤ k → ¬ (stC s k = 37 ∨ stC s k = 38 ∨ stC s k = 40 ∨ stC s k = 42) := by
  intro s hs
  rcases hs with rfl | rfl | rfl <;> refine ⟨by decide, by decide, ?_⟩ <;> decide +kernel
theorem RepC.z {e0 t0 : Nat} {x y : St} {s : Nat} {F : List SFd} (h : RepC x s F) (hs : SchId s) (f : FrZ e0 t0 x y) : RepC y s F := by
  obtain ⟨z1, z2, z3⟩ := sch_far0 s hs
  have e : ∀ k, k < 13 → 2 ≤ k → fA y (stC s k) = fA x (stC s k) := fun k a b => f.2.2.2.1 _ (z3 k a b)
  have ei : ∀ k, fI y s k = fI x s k := fun k => f.1 s k (by omega)
  unfold RepC
  rw [e 2 (by decide) (by decide), e 3 (by decide) (by decide), e 4 (by decide) (by decide), e 5 (by decide) (by decide), e 6 (by decide) (by decide), e 7 (by decide) (by decide), e 8 (by decide) (by decide), e 9 (by decide) (by decide), e 10 (by decide) (by decide), e 11 (by decide) (by decide), e 12 (by decide) (by decide), ei, ei]
  exact h
theorem enApp {E : List SEn} {z : SEn} {i : Nat} (h : i < E.length) : (E ++ [z]).getD i en0 = E.getD i en0 := by
  rw [List.getD_eq_getElem?_getD, List.getD_eq_getElem?_getD, List.getElem?_append_left h]
theorem enNew {E : List SEn} {z : SEn} : (E ++ [z]).getD E.length en0 = z := by
  rw [List.getD_eq_getElem?_getD, List.getElem?_append_right (Nat.le_refl _), Nat.sub_self]
  rfl
theorem nar_b {c : Nat} (h : c < 128) : vp_nar .byte (nI c).toInt8.toInt32 = nI c := by
  show (nI c).toInt8.toInt32.toInt8.toInt32 = nI c
  (first | omega | (simp (disch := omega) only [Int32.le_iff_toInt_le, Int32.lt_iff_toInt_lt, z_eq, z_in, nI_toInt, z_cl, z_m1, z_sg, z_255, Int32.reduceToInt] <;> omega) | (simp only [Int32.le_iff_toInt_le, Int32.lt_iff_toInt_lt, z_eq, z_in, z_add, z_sub, z_mul, z_neg, z_nI, z_cl, z_sg, z_255, z_lit, Int32.reduceToInt] <;> omega))
theorem VlC.cg {x y : St} {F : List SFd} {t u c : Nat} {v w : Int64} {b : List Int32} (h : VlC x F t c v w b) (e : ∀ i, i < t → fA y 42 i = fA x 42 i) (hu : t ≤ u) : VlC y F u c v w b := by
  refine ⟨h.1, fun z => ?_⟩
  obtain ⟨h1, a, h2, h3, h4⟩ := h.2 z
  exact ⟨h1, a, h2, by omega, fun j hj => by rw [e (a + j) (by omega)]; exact h4 j hj⟩
theorem d_enter {post : St → Prop} {x : St} {F : List SFd} {E : List SEn} {t c r d e0 t0 : Nat} {v w : Int64} {b : List Int32} (hL : LC x) (h : RcC x F E t) (he : e0 ≤ E.length) (hb : E.length < 2 ^ 30) (hc : c < 64) (hr : r < 128) (hd : d < 128) (hv : VlC x F t c v w b)
    (p : ∀ y, FrZ e0 t0 x y → (∀ k, fI y 10 k = fI x 10 k) → RcC y F (E ++ [(c, r, d, w, b)]) t → post y) : wp_Rec_enter post 36 (nI c) (nI r) (nI d) v x := by
  obtain ⟨h1, h2, h3⟩ := h
  have hl : (E ++ [(c, r, d, w, b)]).length = E.length + 1 := by rw [List.length_append]; rfl
  have l37 : fN x 37 = 10000 := hL 37 (by decide)
  have l38 : fN x 38 = 10000 := hL 38 (by decide)
  have l39 : fN x 39 = 10000 := hL 39 (by decide)
  have l40 : fN x 40 = 10000 := hL 40 (by decide)
  have cl : (nI E.length).toNatClampNeg = E.length := nI_clamp (by omega)
  have s5 : stC 36 5 = 37 := by decide +kernel
  have s6 : stC 36 6 = 38 := by decide +kernel
  have s7 : stC 36 7 = 39 := by decide +kernel
  have s8 : stC 36 8 = 40 := by decide +kernel
  unfold wp_Rec_enter j_Rec_enter_54
  rw [s5, s6, s7, s8, h1, nar_b (by omega), nar_b hr, nar_b hd]
  by_cases g : E.length < 10000
  · refine br_f (by (first | omega | (simp (disch := omega) only [Int32.le_iff_toInt_le, Int32.lt_iff_toInt_lt, z_eq, z_in, nI_toInt, z_cl, z_m1, z_sg, z_255, Int32.reduceToInt] <;> omega) | (simp only [Int32.le_iff_toInt_le, Int32.lt_iff_toInt_lt, z_eq, z_in, z_add, z_sub, z_mul, z_neg, z_nI, z_cl, z_sg, z_255, z_lit, Int32.reduceToInt] <;> omega))) ⟨by rw [l40]; exact vp_in_nI g (by decide), nm_e ⟨?_, nm_r (e' := setA (setA x 40 (nI E.length) (nI c)) 37 (nI E.length) (nI r)) ?_ ⟨?_, nm_r (e' := setA (setA (setA x 40 (nI E.length) (nI c)) 37 (nI E.length) (nI r)) 38 (nI E.length) (nI d)) ?_ ⟨?_, nm_r (e' := setL (setA (setA (setA x 40 (nI E.length) (nI c)) 37 (nI E.length) (nI r)) 38 (nI E.length) (nI d)) 39 (nI E.length) v) ?_ (nm_r (e' := setI (setL (setA (setA (setA x 40 (nI E.length) (nI c)) 37 (nI E.length) (nI r)) 38 (nI E.length) (nI d)) 39 (nI E.length) v) 36 3 (nI (E.length + 1))) ?_ (p _ ?_ (fun k => rfl) ⟨?_, h2, fun i hi hi2 => ?_⟩))⟩⟩⟩⟩
    · show vp_in (fI x 36 3) (fN x 37)
      rw [h1, l37]
      exact vp_in_nI g (by decide)
    · show setA _ 37 (fI x 36 3) (nI r) = _
      rw [h1]
    · show vp_in (fI x 36 3) (fN x 38)
      rw [h1, l38]
      exact vp_in_nI g (by decide)
    · show setA _ 38 (fI x 36 3) (nI d) = _
      rw [h1]
    · show vp_in (fI x 36 3) (fN x 39)
      rw [h1, l39]
      exact vp_in_nI g (by decide)
    · show setL _ 39 (fI x 36 3) v = _
      rw [h1]
    · show setI _ 36 3 (fI x 36 3 + 1) = _
      rw [h1, nI_1]
    · exact ((((FrZ.a (by decide) he (by omega)).trans (FrZ.a (by decide) he (by omega))).trans (FrZ.a (by decide) he (by omega))).trans (FrZ.l he (by omega))).trans (FrZ.i (by decide))
    · rw [hl]; exact gI_at
    · rw [hl] at hi
      show EnC (setL (setA (setA (setA x 40 (nI E.length) (nI c)) 37 (nI E.length) (nI r)) 38 (nI E.length) (nI d)) 39 (nI E.length) v) F t i _
      have a40 : fA (setL (setA (setA (setA x 40 (nI E.length) (nI c)) 37 (nI E.length) (nI r)) 38 (nI E.length) (nI d)) 39 (nI E.length) v) 40 = upd (fA x 40) E.length (nI c) := by
        show fA (setA (setA (setA x 40 (nI E.length) (nI c)) 37 (nI E.length) (nI r)) 38 (nI E.length) (nI d)) 40 = _
        rw [gA_ne (by decide), gA_ne (by decide), gA_at, cl]
      have a37 : fA (setL (setA (setA (setA x 40 (nI E.length) (nI c)) 37 (nI E.length) (nI r)) 38 (nI E.length) (nI d)) 39 (nI E.length) v) 37 = upd (fA x 37) E.length (nI r) := by
        show fA (setA (setA (setA x 40 (nI E.length) (nI c)) 37 (nI E.length) (nI r)) 38 (nI E.length) (nI d)) 37 = _
        rw [gA_ne (by decide), gA_at, cl, gA_ne (by decide)]
      have a38 : fA (setL (setA (setA (setA x 40 (nI E.length) (nI c)) 37 (nI E.length) (nI r)) 38 (nI E.length) (nI d)) 39 (nI E.length) v) 38 = upd (fA x 38) E.length (nI d) := by
        show fA (setA (setA (setA x 40 (nI E.length) (nI c)) 37 (nI E.length) (nI r)) 38 (nI E.length) (nI d)) 38 = _
        rw [gA_at, cl, gA_ne (by decide), gA_ne (by decide)]
      have a39 : fL (setL (setA (setA (setA x 40 (nI E.length) (nI c)) 37 (nI E.length) (nI r)) 38 (nI E.length) (nI d)) 39 (nI E.length) v) 39 = vp_updL (fL x 39) E.length v := by rw [gL_at, cl]; rfl
      unfold EnC
      rw [a40, a37, a38, a39]
      by_cases k : i = E.length
      · subst k
        rw [enNew, upd_at, upd_at, upd_at, updL_at]
        exact ⟨rfl, rfl, rfl, hc, hr, hd, hv⟩
      · rw [enApp (show i < E.length by omega), upd_ne k, upd_ne k, upd_ne k, updL_ne k]
        exact h3 i (by omega) hi2
  · refine br_t (by (first | omega | (simp (disch := omega) only [Int32.le_iff_toInt_le, Int32.lt_iff_toInt_lt, z_eq, z_in, nI_toInt, z_cl, z_m1, z_sg, z_255, Int32.reduceToInt] <;> omega) | (simp only [Int32.le_iff_toInt_le, Int32.lt_iff_toInt_lt, z_eq, z_in, z_add, z_sub, z_mul, z_neg, z_nI, z_cl, z_sg, z_255, z_lit, Int32.reduceToInt] <;> omega))) (nm_r (e' := setI x 36 3 (nI (E.length + 1))) (by rw [nI_1]) (p _ (FrZ.i (by decide)) (fun k => rfl) ⟨by rw [hl]; exact gI_at, h2, fun i hi hi2 => ?_⟩))
    rw [enApp (show i < E.length by omega)]
    exact h3 i (by omega) hi2
