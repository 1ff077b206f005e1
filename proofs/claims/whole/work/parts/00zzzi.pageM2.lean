/-! a page of the model: levels, bounds, body -/
def lvB (R : Nat → Int32) (n most : Nat) : List Nat := if most = 0 then [] else varB (runB R n (bl most)).length ++ runB R n (bl most)
def mnF (ty : Nat) (P : List PV) : Nat → Nat
  | 0 => 0
  | k + 1 => if cmpV ty (pvd P (k + 1)) (pvd P (mnF ty P k)) < 0 then k + 1 else mnF ty P k
def mxF (ty : Nat) (P : List PV) : Nat → Nat
  | 0 => 0
  | k + 1 => if 0 < cmpV ty (pvd P (k + 1)) (pvd P (mxF ty P k)) then k + 1 else mxF ty P k
theorem mnF_le {ty : Nat} {P : List PV} : ∀ k, mnF ty P k ≤ k := by
  intro k
  induction k with
  | zero => exact Nat.le_refl _
  | succ k ih => simp only [mnF]; split; exact Nat.le_refl _; exact Nat.le_succ_of_le ih
theorem mxF_le {ty : Nat} {P : List PV} : ∀ k, mxF ty P k ≤ k := by
  intro k
  induction k with
  | zero => exact Nat.le_refl _
  | succ k ih => simp only [mxF]; split; exact Nat.le_refl _; exact Nat.le_succ_of_le ih
def bndB (ty : Nat) (P : List PV) : List Nat := if P.length = 0 then [] else toldB ty (pvd P (mnF ty P (P.length - 1))) ++ toldB ty (pvd P (mxF ty P (P.length - 1)))
def ckB (b : List Nat) : List Nat := fixB (uL (crcS (fun i => nI (b.getD i 0)) 0 b.length).toInt64) 4
def bodyB (ty mr md : Nat) (Rp Df : Nat → Int32) (E : Nat) (P : List PV) : List Nat := lvB Rp E mr ++ (lvB Df E md ++ valB ty (cod ty P) P)
def pageB (ty mr md : Nat) (Rp Df : Nat → Int32) (E : Nat) (P : List PV) : List Nat := varB E ++ (varB (E - P.length) ++ ([cod ty P] ++ (bndB ty P ++ (varB (bodyB ty mr md Rp Df E P).length ++ (ckB (bodyB ty mr md Rp Df E P) ++ bodyB ty mr md Rp Df E P)))))
theorem cod_lt {ty : Nat} {P : List PV} : cod ty P < nCod ty := by
  have := bC_le (ty := ty) (P := P) (nCod ty - 1)
  have h2 : 2 ≤ nCod ty := by unfold nCod; split; decide; split <;> decide
  unfold cod
  omega
theorem bl5 {m : Nat} (h : m ≤ 17) : bl m ≤ 5 := bl_le.mpr (by omega)
theorem lv_len {R : Nat → Int32} {n m : Nat} (hm : m ≤ 17) (hn : n ≤ 1000) : (lvB R n m).length ≤ 1760 := by
  unfold lvB
  split
  · exact Nat.zero_le _
  · have h1 := runB_len2 (R := R) (n := n) (w := bl m) (by have := bl5 hm; omega) hn
    have h2 := varB_len (runB R n (bl m)).length
    rw [List.length_append]
    omega
/-- the levels of a page -/
def PgL (x : St) (mr md : Nat) (Rp Df : Nat → Int32) (E : Nat) : Prop := fI x 0 39 = nI mr ∧ fI x 0 40 = nI md ∧ fI x 0 41 = nI E ∧ mr ≤ 17 ∧ md ≤ 17 ∧ E ≤ 1000 ∧ (∀ i, i < E → fA x 26 i = Rp i) ∧ (∀ i, i < E → fA x 27 i = Df i)
abbrev FrP (x y : St) : Prop := Fg (fun o k => o = 0 ∧ (k = 64 ∨ k = 71 ∨ k = 43 ∨ k = 44)) no2 no2 (fun a => a = 39 ∨ a = 44 ∨ a = 40) (fun a => a = 43) x y
theorem FrV.p {x y : St} (h : FrV x y) : FrP x y := h.mono (fun _ _ z => ⟨z.1, by omega⟩) (fun _ _ z => z) (fun _ _ z => z) (fun _ z => by omega) (fun _ z => z)
theorem PgM.p {x y : St} {ty : Nat} {P : List PV} (h : PgM x ty P) (f : FrP x y) : PgM y ty P := by
  obtain ⟨h1, h2, h3, h4, h5, h6, h7, h8, h9, h10⟩ := h
  obtain ⟨f1, f2, f3, f4, f5, f6⟩ := f
  have e30 : fL y 30 = fL x 30 := f5 30 (by decide)
  have e33 : fA y 33 = fA x 33 := f4 33 (by decide)
  have e36 : fA y 36 = fA x 36 := f4 36 (by decide)
  refine ⟨(f1 0 38 (by decide)).trans h1, (f1 0 42 (by decide)).trans h2, h3, h4, h5, fun o => ?_, fun k hk => ?_, fun k hk => ?_, fun k j hk hj => ?_, h10⟩
  · show y.2.2.2.2.2 o = _
    rw [f6]
    exact h6 o
  · rw [e30]; exact h7 k hk
  · rw [e33]; exact h8 k hk
  · rw [e36]; exact h9 k j hk hj
theorem PgL.p {x y : St} {mr md E : Nat} {Rp Df : Nat → Int32} (h : PgL x mr md Rp Df E) (f : FrP x y) : PgL y mr md Rp Df E := by
  obtain ⟨h1, h2, h3, h4, h5, h6, h7, h8⟩ := h
  obtain ⟨f1, f2, f3, f4, f5, f6⟩ := f
  have e26 : fA y 26 = fA x 26 := f4 26 (by decide)
  have e27 : fA y 27 = fA x 27 := f4 27 (by decide)
  refine ⟨(f1 0 39 (by decide)).trans h1, (f1 0 40 (by decide)).trans h2, (f1 0 41 (by decide)).trans h3, h4, h5, h6, fun i hi => ?_, fun i hi => ?_⟩
  · rw [e26]; exact h7 i hi
  · rw [e27]; exact h8 i hi
section
variable {x : St} {ty : Nat} {P : List PV}
theorem s_levels {post : St → Prop} {r most E : Nat} {R : Nat → Int32} {B : List Nat} (hr : r ≠ 39) (hR : RwI x r R E) (hE : fI x 0 41 = nI E) (hE1 : E ≤ 1000) (hm : most ≤ 17) (hS : Sh x B) (hB : B.length ≤ 2 ^ 20) (p : ∀ y, FrSh x y → Sh y (B ++ lvB R E most) → post y) : wp_Mod_putLevels post r (nI most) x := by
  unfold wp_Mod_putLevels
  by_cases c0 : most = 0
  · subst c0
    refine bn_t rfl (p x (Fg.refl x) ?_)
    show Sh x (B ++ [])
    rw [List.append_nil]
    exact hS
  · have ev : lvB R E most = varB (runB R E (bl most)).length ++ runB R E (bl most) := by unfold lvB; rw [if_neg c0]
    have b5 := bl5 hm
    rw [ev] at p
    refine bn_f (fun z => c0 (nI_inj (b := 0) (by omega) (by decide) z)) ?_
    refine lp_Mod_putLevels_7 (fun a0 a1 a2 y => r = a0 ∧ nI most = a1 ∧ x = y ∧ ∃ w, nI w = a2 ∧ w ≤ bl most) (fun _ _ a2 _ => bl most - a2.toNatClampNeg) ?_ _ _ _ _ ⟨rfl, rfl, rfl, 0, rfl, Nat.zero_le _⟩
    rintro Q a0 a1 a2 y ⟨rfl, rfl, rfl, w, rfl, w1⟩ ih
    unfold j_Mod_putLevels_7
    have hd : most / 2 ^ w ≤ most := Nat.div_le_self _ _
    rw [sh_w (by omega) (by omega)]
    by_cases c : w < bl most
    · have hb : ¬ bl most ≤ w := by omega
      rw [bl_le] at hb
      have h1 : 1 ≤ most / 2 ^ w := (Nat.le_div_iff_mul_le (Nat.two_pow_pos w)).mpr (by omega)
      refine br_f (by (first | omega | (simp (disch := omega) only [Int32.le_iff_toInt_le, Int32.lt_iff_toInt_lt, z_eq, z_in, nI_toInt, z_cl, z_m1, z_sg, z_255, Int32.reduceToInt] <;> omega) | (simp only [Int32.le_iff_toInt_le, Int32.lt_iff_toInt_lt, z_eq, z_in, z_add, z_sub, z_mul, z_neg, z_nI, z_cl, z_sg, z_255, z_lit, Int32.reduceToInt] <;> omega))) ?_
      rw [nI_1]
      exact ih _ _ _ _ ⟨rfl, rfl, rfl, w + 1, rfl, by omega⟩ (by rw [nI_clamp (by omega), nI_clamp (by omega)]; omega)
    · have ew : w = bl most := by omega
      subst ew
      have hb := bl_le.mp (Nat.le_refl (bl most))
      refine br_t (by rw [Nat.div_eq_of_lt hb]; decide) ?_
      rw [hE]
      refine nm_e (s_runs hr hR (by omega) (by omega) hS (by omega) (fun y y1 y2 => ?_))
      have rl := runB_len2 (R := R) (n := E) (w := bl most) (by omega) hE1
      have e1 := y2.1
      rw [List.length_append] at e1
      rw [e1, hS.1, nI_sub (by omega), Nat.add_sub_cancel_left]
      refine nm_e (nm_e ?_)
      rw [nI_l (by omega)]
      have hS2 : Sh (setI y 0 64 (nI B.length)) B := ⟨gI_at, y2.2.1, fun b hb => y2.2.2.1 b (List.mem_append_left _ hb), fun i a b => by
        have := y2.2.2.2 i (by rw [List.length_append]; omega) b
        rw [getD_app1 a] at this
        exact this⟩
      have fr2 : FrSh x (setI y 0 64 (nI B.length)) := Fg.trans y1 (Fg.i ⟨rfl, rfl⟩)
      refine s_varint hS2 (by omega) (fun z z1 z2 => ?_)
      rw [uL_lN (by omega)] at z2
      have fz : FrSh x z := Fg.trans fr2 z1
      have vl := varB_len (runB R E (bl most)).length
      rw [show fI z 0 41 = nI E from (fz.1 0 41 (by decide)).trans hE]
      refine s_runs hr ⟨?_, ?_, fun i hi => ?_⟩ (by omega) (by omega) z2 (by rw [List.length_append]; omega) (fun v v1 v2 => p v (Fg.trans fz v1) (by rw [← List.append_assoc]; exact v2))
      · show E ≤ z.2.2.2.2.2 r
        rw [fz.2.2.2.2.2]; exact hR.1
      · show z.2.2.2.2.2 r < _
        rw [fz.2.2.2.2.2]; exact hR.2.1
      · show z.2.2.2.1 r i = _
        rw [fz.2.2.2.1 r hr]; exact hR.2.2 i hi
theorem s_mostOf {post : Int32 → St → Prop} {g : Int32} (h : PgM x ty P) (hn : P.length ≠ 0) (hg : g = 0 ∨ g = 1) (p : post (nI (if g = 0 then mnF ty P (P.length - 1) else mxF ty P (P.length - 1))) x) : wp_Mod_mostOf post g x := by
  have hl := h.2.2.2.2.1
  unfold wp_Mod_mostOf
  rw [h.2.1]
  refine bn_f (fun z => hn (nI_inj (b := 0) (by omega) (by decide) z)) ?_
  unfold j_Mod_mostOf_12
  refine lp_Mod_mostOf_15 (fun a0 a1 a2 y => g = a0 ∧ x = y ∧ ∃ k, nI (k + 1) = a2 ∧ k + 1 ≤ P.length ∧ nI (if g = 0 then mnF ty P k else mxF ty P k) = a1) (fun _ _ a2 _ => P.length - a2.toNatClampNeg) ?_ _ _ _ _ ⟨rfl, rfl, 0, rfl, by omega, by split <;> rfl⟩
  rintro Q a0 a1 a2 y ⟨rfl, rfl, k, rfl, k1, rfl⟩ ih
  unfold j_Mod_mostOf_15
  rw [h.2.1]
  have m1 := mnF_le (ty := ty) (P := P) k
  have m2 := mxF_le (ty := ty) (P := P) k
  by_cases c : k + 1 < P.length
  · refine br_f (by (first | omega | (simp (disch := omega) only [Int32.le_iff_toInt_le, Int32.lt_iff_toInt_lt, z_eq, z_in, nI_toInt, z_cl, z_m1, z_sg, z_255, Int32.reduceToInt] <;> omega) | (simp only [Int32.le_iff_toInt_le, Int32.lt_iff_toInt_lt, z_eq, z_in, z_add, z_sub, z_mul, z_neg, z_nI, z_cl, z_sg, z_255, z_lit, Int32.reduceToInt] <;> omega))) (s_compareValues h c (by split <;> omega) ?_)
    unfold j_Mod_mostOf_58
    rw [nI_1]
    have nx : ∀ w, w = nI (if g = 0 then mnF ty P (k + 1) else mxF ty P (k + 1)) → Q g w (nI (k + 1 + 1)) x := fun w hw => ih _ _ _ _ ⟨rfl, rfl, k + 1, rfl, by omega, hw.symm⟩ (by rw [nI_clamp (by omega), nI_clamp (by omega)]; omega)
    rcases hg with rfl | rfl
    · rw [if_pos rfl]
      refine br_t rfl ?_
      by_cases e : cmpV ty (pvd P (k + 1)) (pvd P (mnF ty P k)) < 0
      · refine br_f (by rw [Int32.le_iff_toInt_le]; rw [Int32.lt_iff_toInt_lt] at e; omega) (nx _ ?_)
        rw [if_pos rfl]
        simp only [mnF]
        rw [if_pos e]
      · refine br_t (by rw [Int32.le_iff_toInt_le]; rw [Int32.lt_iff_toInt_lt] at e; omega) (nx _ ?_)
        rw [if_pos rfl]
        simp only [mnF]
        rw [if_neg e]
    · rw [if_neg (by decide)]
      refine br_f (by decide) ?_
      by_cases e : 0 < cmpV ty (pvd P (k + 1)) (pvd P (mxF ty P k))
      · refine br_f (by rw [Int32.le_iff_toInt_le]; rw [Int32.lt_iff_toInt_lt] at e; omega) (nx _ ?_)
        simp only [mxF]
        rw [if_neg (by decide), if_pos e]
      · refine br_t (by rw [Int32.le_iff_toInt_le]; rw [Int32.lt_iff_toInt_lt] at e; omega) (nx _ ?_)
        simp only [mxF]
        rw [if_neg (by decide), if_neg e]
  · refine br_t (by (first | omega | (simp (disch := omega) only [Int32.le_iff_toInt_le, Int32.lt_iff_toInt_lt, z_eq, z_in, nI_toInt, z_cl, z_m1, z_sg, z_255, Int32.reduceToInt] <;> omega) | (simp only [Int32.le_iff_toInt_le, Int32.lt_iff_toInt_lt, z_eq, z_in, z_add, z_sub, z_mul, z_neg, z_nI, z_cl, z_sg, z_255, z_lit, Int32.reduceToInt] <;> omega))) ?_
    rw [show k = P.length - 1 by omega]
    exact p
theorem s_putOne {post : St → Prop} {i : Nat} {B : List Nat} (h : PgM x ty P) (hi : i < P.length) (hS : Sh x B) (hB : B.length ≤ 2 ^ 20) (p : ∀ y, FrSh x y → Sh y (B ++ toldB ty (pvd P i)) → post y) : wp_Mod_putOne post (nI i) x := by
  have hl := h.2.2.2.2.1
  have hty := h.2.2.1
  have e30 : fN x 30 = 1000 := h.2.2.2.2.2.1 30
  have ev : rL x 30 (nI i) = (pvd P i).1 := by rw [rL_nI (by omega)]; exact h.2.2.2.2.2.2.1 i hi
  unfold wp_Mod_putOne
  rw [h.1]
  by_cases c0 : ty = 0
  · subst c0
    refine bn_t rfl ⟨vp_in_nI (by omega) (by omega), ?_⟩
    rw [ev]
    refine s_put hS (by omega) (b := uL (pvd P i).1 % 256) (Nat.mod_lt _ (by decide)) ?_ p
    have := lN_i (uL (pvd P i).1)
    rw [lN_uL] at this
    rw [this, nI_255]
  · refine bn_f (fun z => c0 (nI_inj (b := 0) (by omega) (by decide) z)) ?_
    by_cases c3 : ty = 3
    · subst c3
      exact bn_t rfl (s_putText h rfl hi hS (by omega) p)
    · refine bn_f (fun z => c3 (nI_inj (b := 3) (by omega) (by decide) z)) ⟨vp_in_nI (by omega) (by omega), ?_⟩
      rw [ev]
      have e : toldB ty (pvd P i) = varB (uL (zg (pvd P i).1)) := by unfold toldB; rw [if_neg c3, if_neg c0]
      rw [e] at p
      exact s_zigzag (s_varint hS (by omega) p)
theorem s_codings {post : Int32 → St → Prop} (h : PgM x ty P) (p : post (nI (nCod ty)) x) : wp_Mod_codings post x := by
  have hty := h.2.2.1
  unfold wp_Mod_codings
  rw [h.1]
  unfold nCod at p
  by_cases c0 : ty = 0
  · rw [if_pos c0] at p
    exact bn_t (by rw [c0]; rfl) p
  · rw [if_neg c0] at p
    refine bn_f (fun z => c0 (nI_inj (b := 0) (by omega) (by decide) z)) ?_
    by_cases c3 : ty = 3
    · rw [if_pos c3] at p
      exact bn_t (by rw [c3]; rfl) p
    · rw [if_neg c3] at p
      exact bn_f (fun z => c3 (nI_inj (b := 3) (by omega) (by decide) z)) p
end
