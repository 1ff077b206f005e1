/-! the class: a schema in an object -/
def LC (x : St) : Prop := ∀ r, r < 152 → fN x r = lenC.getD r 0
def SchId (s : Nat) : Prop := s = 12 ∨ s = 24 ∨ s = 70
def lenS (k : Nat) : Nat := if k = 10 then 64 else if k = 12 then 2048 else 128
theorem sch_len0 : ∀ s, SchId s → ∀ k, k < 13 → 2 ≤ k → stC s k < 152 ∧ lenC.getD (stC s k) 0 = lenS k := by
  intro s hs
  rcases hs with rfl | rfl | rfl <;> decide +kernel
theorem sch_len (s : Nat) (hs : SchId s) (k : Nat) (h2 : 2 ≤ k) (h12 : k ≤ 12) : stC s k < 152 ∧ lenC.getD (stC s k) 0 = lenS k := sch_len0 s hs k (by omega) h2
theorem LC.s {x : St} {s k : Nat} (hL : LC x) (hs : SchId s) (h2 : 2 ≤ k) (h12 : k ≤ 12) : fN x (stC s k) = lenS k := by
  have z := sch_len s hs k h2 h12
  rw [hL _ z.1, z.2]
/-- rows of a schema are apart -/
theorem sch_ne0 : ∀ s, SchId s → ∀ j, j < 13 → ∀ k, k < 13 → (2 ≤ j ∧ 2 ≤ k ∧ j ≠ k → stC s j ≠ stC s k) := by
  intro s hs
  rcases hs with rfl | rfl | rfl <;> decide +kernel
theorem sch_ne (s : Nat) (hs : SchId s) (j : Nat) (a : 2 ≤ j) (b : j ≤ 12) (k : Nat) (c : 2 ≤ k) (d : k ≤ 12) (e : j ≠ k) : stC s j ≠ stC s k := sch_ne0 s hs j (by omega) k (by omega) ⟨a, c, e⟩
def wGrp (Ty : Nat → Int32) : Nat → Nat := fun h => if Ty h = 4 then 1 else 0
/-- the first field behind f and all that lie in it, of those below h -/
def pst (P : Nat → Int32) (f : Nat) : Nat → Nat
  | 0 => f + 1
  | h + 1 => if upS (ind f) P (nI h) = 1 then h + 1 else pst P f h
def NmS (F : List SFd) : Prop := ∀ f, f < F.length → ∀ i, i < (fNm F f).length → 0 ≤ (fNm F f).getD i 0 ∧ (fNm F f).getD i 0 ≤ 255
def RepC (x : St) (s : Nat) (F : List SFd) : Prop :=
  fI x s 0 = nI F.length ∧ fI x s 1 = nI (ncol F) ∧ NmS F ∧
  (∀ f, f < F.length → fA x (stC s 2) f = fKd F f ∧ fA x (stC s 3) f = fTy F f ∧ fA x (stC s 4) f = fPa F f ∧ fA x (stC s 5) f = nI (upS (wRep (fKd F)) (fPa F) (nI f)) ∧ fA x (stC s 6) f = nI (upS (wDef (fKd F)) (fPa F) (nI f)) ∧ fA x (stC s 7) f = nI (upS (wGrp (fTy F)) (fPa F) (nI f)) ∧ fA x (stC s 8) f = nI (pst (fPa F) f F.length) ∧ fA x (stC s 9) f = nI (ncol (F.take f)) ∧ fA x (stC s 11) f = nI (fNm F f).length ∧ ∀ i, i < (fNm F f).length → fA x (stC s 12) (16 * f + i) = ((fNm F f).getD i 0).toInt8.toInt32) ∧
  ∀ f, f < F.length → fTy F f ≠ 4 → fA x (stC s 10) (ncol (F.take f)) = nI f
theorem sg_inj {v w : Int32} (h0 : 0 ≤ v) (h1 : v ≤ 255) (k0 : 0 ≤ w) (k1 : w ≤ 255) : v.toInt8.toInt32 = w.toInt8.toInt32 ↔ v = w := by
  constructor <;> intro e
  · (first | omega | (simp (disch := omega) only [Int32.le_iff_toInt_le, Int32.lt_iff_toInt_lt, z_eq, z_in, nI_toInt, z_cl, z_m1, z_sg, z_255, Int32.reduceToInt] at * <;> omega) | (simp only [Int32.le_iff_toInt_le, Int32.lt_iff_toInt_lt, z_eq, z_in, z_add, z_sub, z_mul, z_neg, z_nI, z_cl, z_sg, z_255, z_lit, Int32.reduceToInt] at * <;> omega))
  · rw [e]
/-- a row of bytes holds T from a to a + n -/
def BtC (x : St) (q : Nat) (T : Nat → Int32) (a n : Nat) : Prop := a + n ≤ fN x q ∧ fN x q < 2 ^ 31 ∧ ∀ i, i < n → fA x q (a + i) = (T (a + i)).toInt8.toInt32 ∧ 0 ≤ T (a + i) ∧ T (a + i) ≤ 255
theorem c_hasName {post : Int32 → St → Prop} {x : St} {s f q a n : Nat} {F : List SFd} {T : Nat → Int32} (hs : SchId s) (hL : LC x) (h : RepC x s F) (hw : WfS F) (hf : f < F.length) (hb : BtC x q T a n)
    (p1 : fNm F f = rowL T a n → post 1 x) (p0 : ¬ fNm F f = rowL T a n → post 0 x) : wp_Sch_hasName post s (nI f) q (nI a) (nI n) x := by
  have l11 : fN x (stC s 11) = 128 := hL.s hs (by decide) (by decide)
  have l12 : fN x (stC s 12) = 2048 := hL.s hs (by decide) (by decide)
  have hF := hw.1
  have hn16 := (hw.2.2.2.1 f hf).2.2.2.2
  obtain ⟨b1, b2, b3⟩ := hb
  obtain ⟨-, -, -, -, -, -, -, -, g11, g12⟩ := h.2.2.2.1 f hf
  have gN := h.2.2.1 f hf
  unfold wp_Sch_hasName
  rw [l11, rA_nI (by omega), g11]
  refine ⟨vp_in_nI (by omega) (by decide), ?_⟩
  by_cases c : (fNm F f).length = n
  · refine br_t (by rw [c]) (nm_r (e' := nI (16 * f)) (by rw [show (16 : Int32) = nI 16 from rfl, nI_mul, Nat.mul_comm]) ?_)
    refine lp_Sch_hasName_22 (fun a0 a1 a2 a3 a4 a5 a6 y => s = a0 ∧ q = a2 ∧ nI a = a3 ∧ nI n = a4 ∧ nI (16 * f) = a5 ∧ x = y ∧ ∃ i, i ≤ n ∧ nI i = a6 ∧ ∀ j, j < i → (fNm F f).getD j 0 = T (a + j)) (fun _ _ _ _ _ _ a6 _ => n - a6.toNatClampNeg) ?_ _ _ _ _ _ _ _ _ ⟨rfl, rfl, rfl, rfl, rfl, rfl, 0, Nat.zero_le _, rfl, lt_0⟩
    rintro R a0 a1 a2 a3 a4 a5 a6 y ⟨rfl, rfl, rfl, rfl, rfl, rfl, i, hi, rfl, hc⟩ ih
    unfold j_Sch_hasName_22
    by_cases d : i < n
    · refine br_f (by (first | omega | (simp (disch := omega) only [Int32.le_iff_toInt_le, Int32.lt_iff_toInt_lt, z_eq, z_in, nI_toInt, z_cl, z_m1, z_sg, z_255, Int32.reduceToInt] <;> omega) | (simp only [Int32.le_iff_toInt_le, Int32.lt_iff_toInt_lt, z_eq, z_in, z_add, z_sub, z_mul, z_neg, z_nI, z_cl, z_sg, z_255, z_lit, Int32.reduceToInt] <;> omega))) ?_
      rw [nI_add, nI_add, l12, rA_nI (by omega), rA_nI (by omega), g12 i (by omega), (b3 i d).1]
      refine ⟨vp_in_nI (by omega) (by decide), vp_in_nI (by omega) b2, ?_⟩
      have key := sg_inj (gN i (by omega)).1 (gN i (by omega)).2 (b3 i d).2.1 (b3 i d).2.2
      by_cases e : (fNm F f).getD i 0 = T (a + i)
      · refine br_t (key.mpr e) ?_
        rw [nI_1]
        refine ih _ _ _ _ _ _ _ _ ⟨rfl, rfl, rfl, rfl, rfl, rfl, i + 1, by omega, rfl, lt_s hc e⟩ ?_
        show n - (nI (i + 1)).toNatClampNeg < n - (nI i).toNatClampNeg
        rw [nI_clamp (by omega), nI_clamp (by omega)]
        omega
      · exact br_f (fun z => e (key.mp z)) (p0 (fun z => e ((nm_eq.mp z).2 i d)))
    · refine br_t (by (first | omega | (simp (disch := omega) only [Int32.le_iff_toInt_le, Int32.lt_iff_toInt_lt, z_eq, z_in, nI_toInt, z_cl, z_m1, z_sg, z_255, Int32.reduceToInt] <;> omega) | (simp only [Int32.le_iff_toInt_le, Int32.lt_iff_toInt_lt, z_eq, z_in, z_add, z_sub, z_mul, z_neg, z_nI, z_cl, z_sg, z_255, z_lit, Int32.reduceToInt] <;> omega))) (p1 (nm_eq.mpr ⟨c, fun j hj => hc j (by omega)⟩))
  · refine br_f (fun z => ?_) (p0 (fun z => c (nm_eq.mp z).1))
    have hnb : n < 2 ^ 31 := by omega
    exact c ((nI_eq (by omega) hnb).mp z)
theorem pst_le {P : Nat → Int32} {f : Nat} : ∀ {N : Nat}, f < N → pst P f N ≤ N := by
  intro N
  induction N with
  | zero => intro h; omega
  | succ N ih =>
    intro h
    show (if upS (ind f) P (nI N) = 1 then N + 1 else pst P f N) ≤ N + 1
    split
    · omega
    · rcases Nat.lt_or_ge f N with c | c
      · have := ih c; omega
      · have e : f = N := by omega
        subst e
        have : ∀ N, N ≤ f → pst P f N ≤ f + 1 := by
          intro N
          induction N with
          | zero => intro _; exact Nat.le_refl _
          | succ N ih2 =>
            intro h2
            show (if upS (ind f) P (nI N) = 1 then N + 1 else pst P f N) ≤ f + 1
            split
            · omega
            · exact ih2 (by omega)
        exact this f (Nat.le_refl _)
theorem pst_in {P : Nat → Int32} {f : Nat} : ∀ {N h : Nat}, h < N → upS (ind f) P (nI h) = 1 → h < pst P f N := by
  intro N
  induction N with
  | zero => intro h hh; omega
  | succ N ih =>
    intro h hh e
    show h < if upS (ind f) P (nI N) = 1 then N + 1 else pst P f N
    split
    · omega
    · rename_i c
      by_cases d : h = N
      · subst d; exact absurd e c
      · exact ih (by omega) e
/-- the fields of a group lie behind it and ahead of the first field behind all -/
theorem pst_child {F : List SFd} {f g : Nat} (hw : WfS F) (hf : f < F.length) (e : fPa F f = nI g) (hg : g < f) : f < pst (fPa F) g F.length := by
  refine pst_in hf ?_
  rw [upS_at hw.2.2.1 hf, e, ind_self hw.2.2.1 (by omega), show ind g f = 0 from if_neg (by omega)]
theorem c_find {post : Int32 → St → Prop} {x : St} {s q a n : Nat} {g : Int32} {F : List SFd} {T : Nat → Int32} (hs : SchId s) (hL : LC x) (h : RepC x s F) (hw : WfS F) (hg : gOk F.length g) (hb : BtC x q T a n)
    (p0 : hasN F g (rowL T a n) = false → post (-1) x) (p1 : ∀ f, f < F.length → fPa F f = g → fNm F f = rowL T a n → post (nI f) x) : wp_Sch_find post s g q (nI a) (nI n) x := by
  have l4 : fN x (stC s 4) = 128 := hL.s hs (by decide) (by decide)
  have l8 : fN x (stC s 8) = 128 := hL.s hs (by decide) (by decide)
  have hF := hw.1
  have main : ∀ st fi : Nat, st ≤ F.length → fi < 1000 → (∀ f, f < F.length → fPa F f = g → fi ≤ f ∧ f < st) → ∃ m, wl_Sch_find_14 post m s g q (nI a) (nI n) (nI st) (nI fi) x := by
    intro st fi hst hfi hall
    refine lp_Sch_find_14 (fun a0 a1 a2 a3 a4 a5 a6 y => s = a0 ∧ g = a1 ∧ q = a2 ∧ nI a = a3 ∧ nI n = a4 ∧ nI st = a5 ∧ x = y ∧ ∃ f, f < 1000 ∧ nI f = a6 ∧ ∀ j, j < f → j < F.length → ¬ (fPa F j = g ∧ fNm F j = rowL T a n)) (fun _ _ _ _ _ _ a6 _ => 1000 - a6.toNatClampNeg) ?_ _ _ _ _ _ _ _ _ ⟨rfl, rfl, rfl, rfl, rfl, rfl, rfl, fi, ?_, rfl, ?_⟩
    · rintro R a0 a1 a2 a3 a4 a5 a6 y ⟨rfl, rfl, rfl, rfl, rfl, rfl, rfl, f, hf, rfl, hc⟩ ih
      unfold j_Sch_find_14
      by_cases c : f < st
      · have hfF : f < F.length := by omega
        have next : ¬ (fPa F f = g ∧ fNm F f = rowL T a n) → j_Sch_find_48 post R s g q (nI a) (nI n) (nI st) (nI f) x := by
          intro z
          unfold j_Sch_find_48
          rw [nI_1]
          refine ih _ _ _ _ _ _ _ _ ⟨rfl, rfl, rfl, rfl, rfl, rfl, rfl, f + 1, by omega, rfl, ?_⟩ ?_
          · intro j hj hj2
            by_cases e : j = f
            · rw [e]; exact z
            · exact hc j (by omega) hj2
          · show 1000 - (nI (f + 1)).toNatClampNeg < 1000 - (nI f).toNatClampNeg
            rw [nI_clamp (by omega), nI_clamp (by omega)]
            omega
        rw [l4, rA_nI (by omega), (h.2.2.2.1 f hfF).2.2.1]
        refine br_f (by (first | omega | (simp (disch := omega) only [Int32.le_iff_toInt_le, Int32.lt_iff_toInt_lt, z_eq, z_in, nI_toInt, z_cl, z_m1, z_sg, z_255, Int32.reduceToInt] <;> omega) | (simp only [Int32.le_iff_toInt_le, Int32.lt_iff_toInt_lt, z_eq, z_in, z_add, z_sub, z_mul, z_neg, z_nI, z_cl, z_sg, z_255, z_lit, Int32.reduceToInt] <;> omega))) ⟨vp_in_nI (by omega) (by decide), ?_⟩
        by_cases d : fPa F f = g
        · refine bn_t d (c_hasName hs hL h hw hfF hb (fun z => br_f (by decide) (p1 f hfF d z)) (fun z => br_t rfl (next (fun w => z w.2))))
        · exact bn_f d (next (fun w => d w.1))
      · refine br_t (by (first | omega | (simp (disch := omega) only [Int32.le_iff_toInt_le, Int32.lt_iff_toInt_lt, z_eq, z_in, nI_toInt, z_cl, z_m1, z_sg, z_255, Int32.reduceToInt] <;> omega) | (simp only [Int32.le_iff_toInt_le, Int32.lt_iff_toInt_lt, z_eq, z_in, z_add, z_sub, z_mul, z_neg, z_nI, z_cl, z_sg, z_255, z_lit, Int32.reduceToInt] <;> omega))) (p0 (hasN_iff.mpr (fun j hj w => hc j ?_ hj w)))
        have := (hall j hj w.1).2
        omega
    · exact hfi
    · intro j hj hj2 w
      have := (hall j hj2 w.1).1
      omega
  unfold wp_Sch_find wp_Sch_pastOf wp_Sch_firstIn
  rcases hg with rfl | ⟨f, hf, rfl⟩
  · refine bn_t rfl (bn_t rfl ?_)
    rw [h.1]
    exact main F.length 0 (Nat.le_refl _) (by decide) (fun f hf _ => ⟨Nat.zero_le _, hf⟩)
  · refine bn_f (nI_nm1 (by omega)) ⟨by rw [l8]; exact vp_in_nI (by omega) (by decide), bn_f (nI_nm1 (by omega)) ?_⟩
    rw [rA_nI (by omega), (h.2.2.2.1 f hf).2.2.2.2.2.2.1, nI_1]
    refine main _ _ (pst_le hf) (by omega) (fun j hj e => ?_)
    rcases hw.2.2.1.2 j hj with z | ⟨k, hk, z⟩
    · rw [z] at e; exact absurd e.symm (nI_nm1 (by omega))
    · rw [z, nI_eq (by omega) (by omega)] at e
      subst e
      exact ⟨hk, pst_child hw hj z hk⟩
