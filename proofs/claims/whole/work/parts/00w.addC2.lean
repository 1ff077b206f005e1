theorem pst_cg {F : List SFd} {z : SFd} (hw : WfS F) : ∀ {N f : Nat}, N ≤ F.length → f < F.length → pst (fPa (F ++ [z])) f N = pst (fPa F) f N := by
  intro N
  induction N with
  | zero => intro f _ _; rfl
  | succ N ih =>
    intro f hN hf
    show (if upS (ind f) (fPa (F ++ [z])) (nI N) = 1 then N + 1 else pst (fPa (F ++ [z])) f N) = if upS (ind f) (fPa F) (nI N) = 1 then N + 1 else pst (fPa F) f N
    rw [ih (by omega) hf, ← upS_cg (w := ind f) (Q := fPa (F ++ [z])) hw.2.2.1 (fun f hf => pa_old hf) (Or.inr ⟨N, by omega, rfl⟩)]
/-- sums over kinds or types of the old fields -/
theorem upF_cw {w v : Nat → Nat} {P : Nat → Int32} {N : Nat} (hP : wfP P N) (e : ∀ f, f < N → w f = v f) : ∀ k g, gOk N g → upF w P k g = upF v P k g := by
  have h1 := hP.1
  intro k
  induction k with
  | zero => intro g _; rfl
  | succ k ih =>
    intro g hg
    rcases hg with rfl | ⟨f, hf, rfl⟩
    · rw [upF_neg, upF_neg]
    · rw [upF_s (by omega), upF_s (by omega), e f hf, ih _ (hP.ok hf)]
theorem upS_cw {w v : Nat → Nat} {P : Nat → Int32} {N : Nat} {g : Int32} (hP : wfP P N) (e : ∀ f, f < N → w f = v f) (hg : gOk N g) : upS w P g = upS v P g := upF_cw hP e 128 g hg
/-- what the rows hold behind 'add', and that this is the schema with one field more -/
theorem RepC_add {x y : St} {s a n q : Nat} {kd ty g : Int32} {F : List SFd} {T : Nat → Int32} (hw : WfS F) (h : RepC x s F) (hg : gIn F g) (hN : F.length < 128) (hn : n ≤ 16) (hT : ∀ i, i < n → 0 ≤ T (a + i) ∧ T (a + i) ≤ 255)
    (e0 : fI y s 0 = nI (F.length + 1)) (e1 : fI y s 1 = nI (ncol F + if ty = 4 then 0 else 1))
    (k2 : fA y (stC s 2) = upd (fA x (stC s 2)) F.length kd) (k3 : fA y (stC s 3) = upd (fA x (stC s 3)) F.length ty) (k4 : fA y (stC s 4) = upd (fA x (stC s 4)) F.length g)
    (k5 : fA y (stC s 5) = upd (fA x (stC s 5)) F.length (nI (upS (wRep (fKd F)) (fPa F) g + if kd = 2 then 1 else 0)))
    (k6 : fA y (stC s 6) = upd (fA x (stC s 6)) F.length (nI (upS (wDef (fKd F)) (fPa F) g + if kd = 0 then 0 else 1)))
    (k7 : fA y (stC s 7) = upd (fA x (stC s 7)) F.length (nI (upS (wGrp (fTy F)) (fPa F) g + if ty = 4 then 1 else 0)))
    (k8 : fA y (stC s 8) = psR (fPa F) g (-1) F.length (upd (fA x (stC s 8)) F.length (nI (F.length + 1))))
    (k9 : fA y (stC s 9) = upd (fA x (stC s 9)) F.length (nI (ncol F)))
    (k10 : fA y (stC s 10) = if ty = 4 then fA x (stC s 10) else upd (fA x (stC s 10)) (ncol F) (nI F.length))
    (k11 : fA y (stC s 11) = upd (fA x (stC s 11)) F.length (nI n))
    (k12 : ∀ i, fA y (stC s 12) i = if 16 * F.length ≤ i ∧ i < 16 * F.length + n then (T (a + (i - 16 * F.length))).toInt8.toInt32 else fA x (stC s 12) i) : RepC y s (F ++ [(kd, ty, g, rowL T a n)]) := by
  obtain ⟨h0, h1, hnm, hf, hc⟩ := h
  have hl : (F ++ [(kd, ty, g, rowL T a n)]).length = F.length + 1 := by rw [List.length_append]; rfl
  have hcn : ncol (F ++ [(kd, ty, g, rowL T a n)]) = ncol F + (if ty = 4 then 0 else 1) := by rw [ncol_app]; show _ + ((if ty = 4 then 0 else 1) + 0) = _; omega
  have hP : wfP (fPa (F ++ [(kd, ty, g, rowL T a n)])) (F.length + 1) := hw.2.2.1.app hN hg.ok
  have pnew : fPa (F ++ [(kd, ty, g, rowL T a n)]) F.length = g := by simp only [fPa, getD_new]
  have upO : ∀ (w : Nat → Nat) (v : Int32), gOk F.length v → upS w (fPa (F ++ [(kd, ty, g, rowL T a n)])) v = upS w (fPa F) v := fun w v hv => (upS_cg hw.2.2.1 (fun f hf => pa_old hf) hv).symm
  have upK : ∀ (W : (Nat → Int32) → Nat → Nat) (C D : Nat → Int32), (∀ f, f < F.length → W C f = W D f) → ∀ v, gOk F.length v → upS (W C) (fPa (F ++ [(kd, ty, g, rowL T a n)])) v = upS (W D) (fPa F) v := fun W C D e v hv => by
    rw [upO _ _ hv, upS_cw hw.2.2.1 e hv]
  have oK : ∀ f, f < F.length → fKd (F ++ [(kd, ty, g, rowL T a n)]) f = fKd F f := fun f hf => by simp only [fKd, getD_app hf]
  have oT : ∀ f, f < F.length → fTy (F ++ [(kd, ty, g, rowL T a n)]) f = fTy F f := fun f hf => by simp only [fTy, getD_app hf]
  refine ⟨by rw [hl]; exact e0, by rw [hcn]; exact e1, ?_, ?_, ?_⟩
  · intro f hff i hi
    rw [hl] at hff
    by_cases c : f = F.length
    · subst c
      simp only [fNm, getD_new] at hi ⊢
      rw [rowL_len] at hi
      rw [rowL_at hi]
      exact hT i hi
    · simp only [fNm, getD_app (show f < F.length by omega)] at hi ⊢
      exact hnm f (by omega) i hi
  · intro f hff
    rw [hl] at hff
    rw [k2, k3, k4, k5, k6, k7, k8, k9, k11]
    by_cases c : f = F.length
    · subst c
      rw [upd_at, upd_at, upd_at, upd_at, upd_at, upd_at, upd_at, upd_at]
      have u : ∀ w : Nat → Nat, upS w (fPa (F ++ [(kd, ty, g, rowL T a n)])) (nI F.length) = w F.length + upS w (fPa (F ++ [(kd, ty, g, rowL T a n)])) g := fun w => by rw [upS_at hP (by omega), pnew]
      refine ⟨by simp only [fKd, getD_new], by simp only [fTy, getD_new], pnew.symm, ?_, ?_, ?_, ?_, ?_, ?_, ?_⟩
      · rw [u, upK wRep _ (fKd F) (fun f hf => by unfold wRep; rw [oK f hf]) g hg.ok, Nat.add_comm]
        congr 2
        show _ = if fKd _ F.length = 2 then 1 else 0
        simp only [fKd, getD_new]
      · rw [u, upK wDef _ (fKd F) (fun f hf => by unfold wDef; rw [oK f hf]) g hg.ok, Nat.add_comm]
        congr 2
        show _ = if fKd _ F.length = 0 then 0 else 1
        simp only [fKd, getD_new]
      · rw [u, upK wGrp _ (fTy F) (fun f hf => by unfold wGrp; rw [oT f hf]) g hg.ok, Nat.add_comm]
        congr 2
        show _ = if fTy _ F.length = 4 then 1 else 0
        simp only [fTy, getD_new]
      · have z : upS (ind F.length) (fPa F) g = 0 := by
          rcases hg.ok with e | ⟨b, hb, e⟩
          · rw [e, upS_neg]
          · rw [e]; exact ind_0 hw.2.2.1 b hb hb
        unfold psR
        rw [if_neg (by omega), upd_at, hl]
        show _ = nI (if upS (ind F.length) _ (nI F.length) = 1 then F.length + 1 else _)
        rw [if_pos (ind_self hP (by omega))]
      · rw [take_app (Nat.le_refl _), List.take_length]
      · simp only [fNm, getD_new]
        rw [rowL_len]
      · intro i hi
        simp only [fNm, getD_new] at hi ⊢
        rw [rowL_len] at hi
        rw [rowL_at hi, k12, if_pos (by omega), show 16 * F.length + i - 16 * F.length = i by omega]
    · have hf2 : f < F.length := by omega
      obtain ⟨g2, g3, g4, g5, g6, g7, g8, g9, g11, g12⟩ := hf f hf2
      have hok : gOk F.length (nI f) := Or.inr ⟨f, hf2, rfl⟩
      rw [upd_ne c, upd_ne c, upd_ne c, upd_ne c, upd_ne c, upd_ne c, upd_ne c, upd_ne c]
      refine ⟨by rw [g2, oK f hf2], by rw [g3, oT f hf2], by rw [g4, pa_old hf2], ?_, ?_, ?_, ?_, ?_, ?_, ?_⟩
      · rw [g5, upK wRep _ (fKd F) (fun f hf => by unfold wRep; rw [oK f hf]) _ hok]
      · rw [g6, upK wDef _ (fKd F) (fun f hf => by unfold wDef; rw [oK f hf]) _ hok]
      · rw [g7, upK wGrp _ (fTy F) (fun f hf => by unfold wGrp; rw [oT f hf]) _ hok]
      · rw [hl]
        show psR (fPa F) g (-1) F.length _ f = nI (if upS (ind f) (fPa (F ++ [(kd, ty, g, rowL T a n)])) (nI F.length) = 1 then F.length + 1 else pst (fPa (F ++ [(kd, ty, g, rowL T a n)])) f F.length)
        rw [upS_at hP (by omega), pnew, show ind f F.length = 0 from if_neg (fun z => c z.symm), Nat.zero_add, upO _ _ hg.ok, pst_cg hw (Nat.le_refl _) hf2]
        unfold psR
        rw [upS_neg]
        by_cases d : upS (ind f) (fPa F) g = 1
        · rw [if_pos ⟨d, rfl⟩, if_pos d]
        · rw [if_neg (fun z => d z.1), if_neg d, upd_ne c, g8]
      · rw [g9, take_app (by omega)]
      · rw [g11]
        simp only [fNm, getD_app hf2]
      · intro i hi
        simp only [fNm, getD_app hf2] at hi ⊢
        have h16 := (hw.2.2.2.1 f hf2).2.2.2.2
        have hi' : i < (fNm F f).length := hi
        rw [k12, if_neg (by omega)]
        exact g12 i hi
  · intro f hff ht
    rw [hl] at hff
    rw [k10]
    by_cases c : f = F.length
    · subst c
      have ht2 : ¬ ty = 4 := by
        simp only [fTy, getD_new] at ht
        exact ht
      rw [if_neg ht2, take_app (Nat.le_refl _), List.take_length, upd_at]
    · have hf2 : f < F.length := by omega
      have ht2 : fTy F f ≠ 4 := by rw [oT f hf2] at ht; exact ht
      have q := ncol_lt hf2 ht2
      rw [take_app (by omega)]
      by_cases d : ty = 4
      · rw [if_pos d]; exact hc f hf2 ht2
      · rw [if_neg d, upd_ne (by omega)]; exact hc f hf2 ht2
