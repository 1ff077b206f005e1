/-! the model reads one FIELD -/
/-- the text T of n bytes is read at k, slot 2 holds F, the fault is e -/
def StM (x : St) (T : Nat → Int32) (n : Nat) (F : List SFd) (k : Nat) (e : Int32) : Prop := TxM x T n ∧ LM x ∧ RepM x 2 F ∧ WfS F ∧ fI x 0 16 = nI k ∧ fI x 0 17 = e ∧ k ≤ n ∧ n ≤ 4000
theorem StM.go {x : St} {T : Nat → Int32} {n k k' : Nat} {F : List SFd} {e : Int32} (h : StM x T n F k e) (hk : k' ≤ n) : StM (setI x 0 16 (nI k')) T n F k' e :=
  ⟨h.1.I (by decide), h.2.1, h.2.2.1, h.2.2.2.1, rfl, h.2.2.2.2.2.1, hk, h.2.2.2.2.2.2.2⟩
theorem StM.ill {x : St} {T : Nat → Int32} {n k : Nat} {F : List SFd} {e v : Int32} (h : StM x T n F k e) : StM (setI x 0 17 v) T n F k v :=
  ⟨h.1.I (by decide), h.2.1, h.2.2.1, h.2.2.2.1, h.2.2.2.2.1, rfl, h.2.2.2.2.2.2.1, h.2.2.2.2.2.2.2⟩
theorem gw_k0 : goodW [114, 101, 113, 117, 105, 114, 101, 100] ∧ (8243119442065778020 : Int64) = lN (bW [114, 101, 113, 117, 105, 114, 101, 100]) := by unfold goodW; decide +kernel
theorem gw_k1 : goodW [111, 112, 116, 105, 111, 110, 97, 108] ∧ (8030046131791487340 : Int64) = lN (bW [111, 112, 116, 105, 111, 110, 97, 108]) := by unfold goodW; decide +kernel
theorem gw_k2 : goodW [114, 101, 112, 101, 97, 116, 101, 100] ∧ (8243118273700586852 : Int64) = lN (bW [114, 101, 112, 101, 97, 116, 101, 100]) := by unfold goodW; decide +kernel
theorem gw_t0 : goodW [98, 111, 111, 108] ∧ (1651470188 : Int64) = lN (bW [98, 111, 111, 108]) := by unfold goodW; decide +kernel
theorem gw_t1 : goodW [105, 110, 116] ∧ (6909556 : Int64) = lN (bW [105, 110, 116]) := by unfold goodW; decide +kernel
theorem gw_t2 : goodW [108, 111, 110, 103] ∧ (1819242087 : Int64) = lN (bW [108, 111, 110, 103]) := by unfold goodW; decide +kernel
theorem gw_t3 : goodW [116, 101, 120, 116] ∧ (1952807028 : Int64) = lN (bW [116, 101, 120, 116]) := by unfold goodW; decide +kernel
theorem gw_t4 : goodW [103, 114, 111, 117, 112] ∧ (444301538672 : Int64) = lN (bW [103, 114, 111, 117, 112]) := by unfold goodW; decide +kernel
/-- takesWord where the text is read on from a place behind blanks -/
theorem s_tkW {post : Int32 → St → Prop} {W : Int64} {b : List Nat} {x : St} {T : Nat → Int32} {n k s : Nat} {F : List SFd} {e : Int32} (h : StM x T n F k e) (hs : skip T n k = s) (hg : goodW b ∧ W = lN (bW b))
    (p1 : e = -1 → isWd T n s b → post 1 (setI x 0 16 (nI (s + b.length)))) (p0 : ¬ (e = -1 ∧ isWd T n s b) → post 0 (setI x 0 16 (nI s))) : wp_Mod_takesWord post W x := by
  obtain ⟨h1, h2, h3, h4, h5, h6, h7, h8⟩ := h
  refine s_takesWord h1 h5 h7 hg.1 hg.2 (fun c w => ?_) (fun q => ?_)
  · rw [hs] at w ⊢
    exact p1 (h6.symm.trans c) w
  · rw [hs] at q ⊢
    exact p0 (fun z => q ⟨h6.trans z.1, z.2⟩)
theorem wd_end {T : Nat → Int32} {n s : Nat} {b : List Nat} (h : isWd T n s b) (hs : s ≤ n) : s + b.length ≤ n := by
  have := @wln_le T n s hs
  have := h.1
  omega
/-- the word that tells the kind -/
theorem s_kind {post : St → Prop} {self : (St → Prop) → Int32 → St → Prop} {g : Int32} {x : St} {T : Nat → Int32} {n k : Nat} {F : List SFd} {e : Int32} (h : StM x T n F k e)
    (p : ∀ kd, (kd = if e = -1 then wdAt T n (skip T n k) kW 0 else -1) → j_Mod_readField_43 post self g kd (setI x 0 16 (nI (if kd = -1 then skip T n k else skip T n k + (kW.getD kd.toNatClampNeg []).length)))) : wb_Mod_readField post self g x := by
  have hs := @skip_le T n k h.2.2.2.2.2.2.1
  generalize hS : skip T n k = s at *
  have hss : skip T n s = s := by rw [← hS, skip_skip]
  unfold wb_Mod_readField
  refine s_tkW h hS gw_k0 (fun c w => br_f (by decide) ?_) (fun q0 => br_t rfl (s_tkW (h.go hs) hss gw_k1 (fun c w => br_f (by decide) ?_) (fun q1 => br_t rfl (s_tkW ((h.go hs).go hs) hss gw_k2 (fun c w => br_f (by decide) ?_) (fun q2 => br_t rfl ?_)))))
  · exact p 0 (by rw [if_pos c]; show _ = if _ then _ else _; rw [if_pos w]; rfl)
  · rw [setI_setI]
    have q0 : ¬ isWd T n s _ := fun z => q0 ⟨c, z⟩
    exact p 1 (by rw [if_pos c]; show _ = if _ then _ else if _ then _ else _; rw [if_neg q0, if_pos w]; rfl)
  · rw [setI_setI, setI_setI]
    have q0 : ¬ isWd T n s _ := fun z => q0 ⟨c, z⟩
    have q1 : ¬ isWd T n s _ := fun z => q1 ⟨c, z⟩
    exact p 2 (by rw [if_pos c]; show _ = if _ then _ else if _ then _ else if _ then _ else _; rw [if_neg q0, if_neg q1, if_pos w]; rfl)
  · rw [setI_setI, setI_setI]
    refine p (-1) ?_
    by_cases c : e = -1
    · have q0 : ¬ isWd T n s _ := fun z => q0 ⟨c, z⟩
      have q1 : ¬ isWd T n s _ := fun z => q1 ⟨c, z⟩
      have q2 : ¬ isWd T n s _ := fun z => q2 ⟨c, z⟩
      rw [if_pos c]
      show _ = if _ then _ else if _ then _ else if _ then _ else _
      rw [if_neg q0, if_neg q1, if_neg q2]
      rfl
    · rw [if_neg c]
/-- the word that tells the type -/
theorem s_type {post : St → Prop} {self : (St → Prop) → Int32 → St → Prop} {g kd : Int32} {x : St} {T : Nat → Int32} {n k : Nat} {F : List SFd} {e : Int32} (h : StM x T n F k e)
    (p : ∀ ty, (ty = if e = -1 then wdAt T n (skip T n k) tW 0 else -1) → j_Mod_readField_128 post self g kd ty (setI x 0 16 (nI (if ty = -1 then skip T n k else skip T n k + (tW.getD ty.toNatClampNeg []).length)))) : j_Mod_readField_57 post self g kd x := by
  have hs := @skip_le T n k h.2.2.2.2.2.2.1
  generalize hS : skip T n k = s at *
  have hss : skip T n s = s := by rw [← hS, skip_skip]
  unfold j_Mod_readField_57
  refine s_tkW h hS gw_t0 (fun c w => br_f (by decide) ?_) (fun q0 => br_t rfl (s_tkW (h.go hs) hss gw_t1 (fun c w => br_f (by decide) ?_) (fun q1 => br_t rfl (s_tkW ((h.go hs).go hs) hss gw_t2 (fun c w => br_f (by decide) ?_) (fun q2 => br_t rfl (s_tkW (((h.go hs).go hs).go hs) hss gw_t3 (fun c w => br_f (by decide) ?_) (fun q3 => br_t rfl (s_tkW ((((h.go hs).go hs).go hs).go hs) hss gw_t4 (fun c w => br_f (by decide) ?_) (fun q4 => br_t rfl ?_)))))))))
  · exact p 0 (by rw [if_pos c]; show _ = if _ then _ else _; rw [if_pos w]; rfl)
  · rw [setI_setI]
    have q0 : ¬ isWd T n s _ := fun z => q0 ⟨c, z⟩
    exact p 1 (by rw [if_pos c]; show _ = if _ then _ else if _ then _ else _; rw [if_neg q0, if_pos w]; rfl)
  · rw [setI_setI, setI_setI]
    have q0 : ¬ isWd T n s _ := fun z => q0 ⟨c, z⟩
    have q1 : ¬ isWd T n s _ := fun z => q1 ⟨c, z⟩
    exact p 2 (by rw [if_pos c]; show _ = if _ then _ else if _ then _ else if _ then _ else _; rw [if_neg q0, if_neg q1, if_pos w]; rfl)
  · rw [setI_setI, setI_setI, setI_setI]
    have q0 : ¬ isWd T n s _ := fun z => q0 ⟨c, z⟩
    have q1 : ¬ isWd T n s _ := fun z => q1 ⟨c, z⟩
    have q2 : ¬ isWd T n s _ := fun z => q2 ⟨c, z⟩
    exact p 3 (by rw [if_pos c]; show _ = if _ then _ else if _ then _ else if _ then _ else if _ then _ else _; rw [if_neg q0, if_neg q1, if_neg q2, if_pos w]; rfl)
  · rw [setI_setI, setI_setI, setI_setI, setI_setI]
    have q0 : ¬ isWd T n s _ := fun z => q0 ⟨c, z⟩
    have q1 : ¬ isWd T n s _ := fun z => q1 ⟨c, z⟩
    have q2 : ¬ isWd T n s _ := fun z => q2 ⟨c, z⟩
    have q3 : ¬ isWd T n s _ := fun z => q3 ⟨c, z⟩
    exact p 4 (by rw [if_pos c]; show _ = if _ then _ else if _ then _ else if _ then _ else if _ then _ else if _ then _ else _; rw [if_neg q0, if_neg q1, if_neg q2, if_neg q3, if_pos w]; rfl)
  · rw [setI_setI, setI_setI, setI_setI, setI_setI]
    refine p (-1) ?_
    by_cases c : e = -1
    · have q0 : ¬ isWd T n s _ := fun z => q0 ⟨c, z⟩
      have q1 : ¬ isWd T n s _ := fun z => q1 ⟨c, z⟩
      have q2 : ¬ isWd T n s _ := fun z => q2 ⟨c, z⟩
      have q3 : ¬ isWd T n s _ := fun z => q3 ⟨c, z⟩
      have q4 : ¬ isWd T n s _ := fun z => q4 ⟨c, z⟩
      rw [if_pos c]
      show _ = if _ then _ else if _ then _ else if _ then _ else if _ then _ else if _ then _ else _
      rw [if_neg q0, if_neg q1, if_neg q2, if_neg q3, if_neg q4]
      rfl
    · rw [if_neg c]
/-- the name: may it stand? -/
theorem s_name {post : St → Prop} {self : (St → Prop) → Int32 → St → Prop} {g kd ty : Int32} {x : St} {T : Nat → Int32} {n k : Nat} {F : List SFd} {e : Int32} (h : StM x T n F k e) (hg : gOk F.length g)
    (pn : (wln T n (skip T n k) = 0 ∨ 16 < wln T n (skip T n k) ∨ mayF F ty g = false ∨ hasN F g (rowL T (skip T n k) (wln T n (skip T n k))) = true) → j_Mod_readField_197 post self g kd ty (nI (wln T n (skip T n k))) (setI x 0 16 (nI (skip T n k))))
    (py : ¬ (wln T n (skip T n k) = 0 ∨ 16 < wln T n (skip T n k) ∨ mayF F ty g = false ∨ hasN F g (rowL T (skip T n k) (wln T n (skip T n k))) = true) → j_Mod_readField_205 post self g kd ty (nI (wln T n (skip T n k))) (setI x 0 16 (nI (skip T n k)))) : j_Mod_readField_142 post self g kd ty x := by
  have hs := @skip_le T n k h.2.2.2.2.2.2.1
  have hx := h.go hs
  obtain ⟨h1, h2, h3, h4, h5, h6, h7, h8⟩ := h
  have hw := @wln_le T n (skip T n k) hs
  generalize hS : skip T n k = s at *
  generalize hW : wln T n s = w at *
  unfold j_Mod_readField_142
  refine s_blanks h1 h5 (by omega) ?_
  rw [hS]
  show wp_Mod_wordAt _ (nI s) _
  refine s_wordAt hx.1 (by omega) ?_
  rw [hW]
  by_cases c0 : w = 0
  · exact br_t (by rw [c0]; rfl) (pn (Or.inl c0))
  refine br_f (fun z => c0 ((nI_eq (b := 0) (by omega) (by decide)).mp z)) ?_
  by_cases c1 : 16 < w
  · exact br_t (by (first | omega | (simp (disch := omega) only [Int32.le_iff_toInt_le, Int32.lt_iff_toInt_lt, z_eq, z_in, nI_toInt, z_cl, z_m1, z_sg, z_255, Int32.reduceToInt] <;> omega) | (simp only [Int32.le_iff_toInt_le, Int32.lt_iff_toInt_lt, z_eq, z_in, z_add, z_sub, z_mul, z_neg, z_nI, z_cl, z_sg, z_255, z_lit, Int32.reduceToInt] <;> omega))) (pn (Or.inr (Or.inl c1)))
  refine br_f (by (first | omega | (simp (disch := omega) only [Int32.le_iff_toInt_le, Int32.lt_iff_toInt_lt, z_eq, z_in, nI_toInt, z_cl, z_m1, z_sg, z_255, Int32.reduceToInt] <;> omega) | (simp only [Int32.le_iff_toInt_le, Int32.lt_iff_toInt_lt, z_eq, z_in, z_add, z_sub, z_mul, z_neg, z_nI, z_cl, z_sg, z_255, z_lit, Int32.reduceToInt] <;> omega))) ?_
  have hu : upS wOne (mP (setI x 0 16 (nI s)) 2) g = upS wOne (fPa F) g := hx.2.2.1.up h4 hg
  have hub : upS wOne (fPa F) g < 2 ^ 31 := by
    rcases hg with rfl | ⟨f, hf, rfl⟩
    · rw [upS_neg]; decide
    · have : ∀ k g, upF wOne (fPa F) k g ≤ k := by
        intro k
        induction k with
        | zero => intro g; exact Nat.le_refl 0
        | succ k ih => intro g; show (if g = -1 then 0 else 1 + _) ≤ _; split; omega; have := ih (fPa F g.toNatClampNeg); omega
      have := this 128 (nI f)
      unfold upS
      omega
  refine s_mayCome hx.2.1 hx.2.2.1.1 hx.2.2.1.2.1 h4.2.1 (hx.2.2.1.wf h4) hg (fun m1 m2 m3 => ?_) (fun z => ?_) (by rw [hu]; exact hub)
  · have c2 : F.length < 128 ∧ (ty = 4 → upS wOne (fPa F) g < 16) ∧ (¬ ty = 4 → ncol F < 64) := ⟨m1, fun z => by rw [← hu]; exact m2 z, m3⟩
    refine br_f (by decide) ?_
    show wp_Mod_find _ (nI 2) g 2 (nI s) (nI w) _
    have h40 : fN (setI x 0 16 (nI s)) 2 = 40000 := h1.2.2.1
    refine s_find hx.2.1 (by decide) hx.2.2.1.1 h4.1 (fun f hf z => by
      rw [(hx.2.2.1.2.2.1 f hf).2.2.2.1] at z
      have := (h4.2.2.2.1 f hf).2.2.2.2
      rw [nI_eq (by omega) (by omega)] at z
      omega) (by rw [h40]; omega) (by rw [h40]; decide) ?_
    have hT : rowL (fA (setI x 0 16 (nI s)) 2) s w = rowL T s w := by
      rw [nm_eq]
      refine ⟨rowL_len, fun i hi => ?_⟩
      rw [rowL_at hi]
      exact (h1.2.2.2 (s + i) (by omega)).1
    have key : fnd (mtM (setI x 0 16 (nI s)) 2 g 2 s w) F.length = -1 ↔ hasN F g (rowL T s w) = false := by
      rw [fnd_some (by omega), hasN_iff]
      constructor
      · intro z f hf y
        have := z f hf
        rw [← hT] at y
        rw [(mtM_iff hx.2.2.1 h4 (by omega) hf).mpr y] at this
        exact absurd this (by decide)
      · intro z f hf
        refine bt_f (fun y => z f hf ?_)
        rw [← hT]
        exact (mtM_iff hx.2.2.1 h4 (by omega) hf).mp y
    by_cases c3 : hasN F g (rowL T s w) = false
    · refine br_t (key.mpr c3) (py ?_)
      rintro (z | z | z | z)
      · exact c0 z
      · exact c1 z
      · rw [show mayF F ty g = true from decide_eq_true c2] at z; exact absurd z (by decide)
      · rw [c3] at z; exact absurd z (by decide)
    · exact br_f (fun z => c3 (key.mp z)) (pn (Or.inr (Or.inr (Or.inr (bf_t c3)))))
  · have c2 : ¬ (F.length < 128 ∧ (ty = 4 → upS wOne (fPa F) g < 16) ∧ (¬ ty = 4 → ncol F < 64)) := fun w => z ⟨w.1, fun y => by rw [hu]; exact w.2.1 y, w.2.2⟩
    exact br_t rfl (pn (Or.inr (Or.inr (Or.inl (decide_eq_false c2)))))
