/-! schemas stay well formed -/
def ind (f : Nat) : Nat → Nat := fun h => if h = f then 1 else 0
/-- a field isn't around what comes before it -/
theorem ind_0 {P : Nat → Int32} {N f : Nat} (hP : wfP P N) : ∀ h, h < N → h < f → upS (ind f) P (nI h) = 0 := by
  intro h
  induction h using Nat.strongRecOn with
  | ind h ih =>
    intro hN hf
    rw [upS_at hP hN]
    have e : ind f h = 0 := if_neg (by omega)
    rw [e]
    rcases hP.2 h hN with c | ⟨g, hg, c⟩
    · rw [c, upS_neg]
    · rw [c, ih g hg (by omega) (by omega)]
theorem ind_g0 {P : Nat → Int32} {N f : Nat} {g : Int32} (hP : wfP P N) (hg : g = -1 ∨ ∃ h, h < N ∧ h < f ∧ g = nI h) : upS (ind f) P g = 0 := by
  rcases hg with rfl | ⟨h, h1, h2, rfl⟩
  · exact upS_neg
  · exact ind_0 hP h h1 h2
theorem ind_self {P : Nat → Int32} {N f : Nat} (hP : wfP P N) (hf : f < N) : upS (ind f) P (nI f) = 1 := by
  rw [upS_at hP hf, show ind f f = 1 from if_pos rfl]
  rcases hP.2 f hf with c | ⟨g, hg, c⟩
  · rw [c, upS_neg]
  · rw [c, ind_0 hP g (by omega) hg]
/-- what is around a field that is around is around -/
theorem ind_up {P : Nat → Int32} {N f p : Nat} (hP : wfP P N) (hf : f < N) (hp : p < f) (e : P f = nI p) : ∀ h, h < N → upS (ind f) P (nI h) = 1 → upS (ind p) P (nI h) = 1 := by
  intro h
  induction h using Nat.strongRecOn with
  | ind h ih =>
    intro hN h1
    rw [upS_at hP hN] at h1 ⊢
    by_cases c : h = f
    · subst c
      rw [e, ind_self hP (by omega), show ind p h = 0 from if_neg (by omega)]
    · rw [show ind f h = 0 from if_neg c] at h1
      rcases hP.2 h hN with d | ⟨g, hg, d⟩
      · rw [d, upS_neg] at h1; omega
      · rw [d] at h1 ⊢
        rw [ih g hg (by omega) (by omega)]
        by_cases b : h = p
        · exfalso
          subst b
          rw [ind_0 hP g (by omega) (by omega)] at h1
          omega
        · rw [show ind p h = 0 from if_neg b]
theorem wfP.app {F : List SFd} {z : SFd} (h : wfP (fPa F) F.length) (hl : F.length < 128) (hg : gOk F.length z.2.2.1) : wfP (fPa (F ++ [z])) (F.length + 1) := by
  refine ⟨by omega, fun f hf => ?_⟩
  by_cases c : f = F.length
  · subst c
    simp only [fPa, getD_new]
    exact hg
  · simp only [fPa, getD_app (show f < F.length by omega)]
    exact h.2 f (by omega)
theorem pa_old {F : List SFd} {z : SFd} {f : Nat} (h : f < F.length) : fPa F f = fPa (F ++ [z]) f := by simp only [fPa, getD_app h]
theorem WfS_add {F : List SFd} {kd ty g : Int32} {nm : List Int32} (h : WfS F) (hg : gIn F g) (hk : kd = 0 ∨ kd = 1 ∨ kd = 2) (ht : 0 ≤ ty ∧ ty ≤ 4) (hm : mayF F ty g = true) (hn : hasN F g nm = false) (h1 : 0 < nm.length) (h2 : nm.length ≤ 16) : WfS (F ++ [(kd, ty, g, nm)]) := by
  obtain ⟨a1, a2, a3, a4, a5, a6, a7⟩ := h
  have hm := of_decide_eq_true hm
  have hn := hasN_iff.mp hn
  have hl : (F ++ [(kd, ty, g, nm)]).length = F.length + 1 := by rw [List.length_append]; rfl
  have hP : wfP (fPa (F ++ [(kd, ty, g, nm)])) (F.length + 1) := a3.app hm.1 hg.ok
  have up : ∀ (w : Nat → Nat) (g : Int32), gOk F.length g → upS w (fPa (F ++ [(kd, ty, g, nm)])) g = upS w (fPa F) g := fun w g hg => (upS_cg a3 (fun f hf => pa_old hf) hg).symm
  have up : ∀ (w : Nat → Nat) (g' : Int32), gOk F.length g' → upS w (fPa (F ++ [(kd, ty, g, nm)])) g' = upS w (fPa F) g' := fun w g' hg => (upS_cg a3 (fun f hf => pa_old hf) hg).symm
  unfold WfS
  rw [hl]
  refine ⟨by omega, ?_, hP, ?_, ?_, ?_, ?_⟩
  · rw [ncol_app]
    show ncol F + ((if ty = 4 then 0 else 1) + 0) ≤ 64
    by_cases d : ty = 4
    · rw [if_pos d]; omega
    · rw [if_neg d]
      have := hm.2.2 d
      omega
  · intro f hf
    by_cases c : f = F.length
    · subst c
      simp only [fKd, fTy, fNm, getD_new]
      exact ⟨hk, ht.1, ht.2, h1, h2⟩
    · simp only [fKd, fTy, fNm, getD_app (show f < F.length by omega)]
      exact a4 f (by omega)
  · intro f p hf e hp
    by_cases c : f = F.length
    · subst c
      simp only [fPa, getD_new] at e
      rcases hg with z | ⟨b, b1, b2, b3, b4⟩
      · rw [z] at e; exact absurd e.symm (nI_nm1 (by omega))
      · rw [b2, nI_eq (by omega) (by omega)] at e
        subst e
        simp only [fTy, getD_app b1]
        refine ⟨b3, ?_⟩
        rw [up _ _ (Or.inr ⟨F.length - 1, by omega, rfl⟩)]
        exact b4
    · have hf2 : f < F.length := by omega
      rw [← pa_old hf2] at e
      obtain ⟨q1, q2⟩ := a5 f p hf2 e hp
      simp only [fTy, getD_app (show p < F.length by omega)]
      refine ⟨q1, ?_⟩
      rw [up _ _ (Or.inr ⟨f - 1, by omega, rfl⟩)]
      exact q2
  · intro f hf e
    by_cases c : f = F.length
    · subst c
      simp only [fTy, getD_new] at e
      rw [upS_at hP (by omega)]
      simp only [fPa, getD_new]
      have := hm.2.1 e
      have u := up wOne g hg.ok
      show wOne F.length + upS wOne (fPa (F ++ [(kd, ty, g, nm)])) g ≤ 16
      rw [u]
      show 1 + _ ≤ 16
      omega
    · have hf2 : f < F.length := by omega
      simp only [fTy, getD_app hf2] at e
      rw [up _ _ (Or.inr ⟨f, hf2, rfl⟩)]
      exact a6 f hf2 e
  · intro f b hfb hb e
    by_cases c : b = F.length
    · subst c
      have hf2 : f < F.length := hfb
      simp only [fPa, fNm, getD_new, getD_app hf2] at e ⊢
      exact fun z => hn f hf2 ⟨e, z⟩
    · have hb2 : b < F.length := by omega
      have hf2 : f < F.length := by omega
      simp only [fPa, fNm, getD_app hf2, getD_app hb2] at e ⊢
      exact a7 f b hfb hb2 e
/-- a field comes, and the same group is open -/
theorem gIn_same {F : List SFd} {kd ty g : Int32} {nm : List Int32} (h : WfS F) (hl : F.length < 128) (hg : gIn F g) : gIn (F ++ [(kd, ty, g, nm)]) g := by
  have hP : wfP (fPa (F ++ [(kd, ty, g, nm)])) (F.length + 1) := h.2.2.1.app hl hg.ok
  have hl2 : (F ++ [(kd, ty, g, nm)]).length = F.length + 1 := by rw [List.length_append]; rfl
  rcases hg with z | ⟨f, b1, b2, b3, b4⟩
  · exact Or.inl z
  · refine Or.inr ⟨f, by omega, b2, by simp only [fTy, getD_app b1]; exact b3, ?_⟩
    rw [hl2]
    show upS (ind f) _ (nI F.length) = 1
    rw [upS_at hP (by omega), show ind f F.length = 0 from if_neg (by omega)]
    simp only [fPa, getD_new]
    rw [b2]
    show 0 + upS (ind f) (fPa (F ++ [(kd, ty, nI f, nm)])) (nI f) = 1
    rw [b2] at hP
    rw [ind_self hP (by omega)]
/-- a group comes, and is open -/
theorem gIn_new {F : List SFd} {kd g : Int32} {nm : List Int32} (h : WfS F) (hl : F.length < 128) (hg : gIn F g) : gIn (F ++ [(kd, 4, g, nm)]) (nI F.length) := by
  have hP : wfP (fPa (F ++ [(kd, 4, g, nm)])) (F.length + 1) := h.2.2.1.app hl hg.ok
  have hl2 : (F ++ [(kd, 4, g, nm)]).length = F.length + 1 := by rw [List.length_append]; rfl
  refine Or.inr ⟨F.length, by omega, rfl, by simp only [fTy, getD_new], ?_⟩
  rw [hl2]
  exact ind_self hP (by omega)
/-- a group ends -/
theorem gIn_up {F : List SFd} {f : Nat} (h : WfS F) (hf : f < F.length) (hg : gIn F (nI f)) : gIn F (fPa F f) := by
  have h1 := h.1
  rcases h.2.2.1.2 f hf with e | ⟨p, hp, e⟩
  · exact Or.inl e
  · refine Or.inr ⟨p, by omega, e, (h.2.2.2.2.1 f p hf e hp).1, ?_⟩
    rcases hg with z | ⟨b, b1, b2, b3, b4⟩
    · exact absurd z (nI_nm1 (by omega))
    · rw [nI_eq (by omega) (by omega)] at b2
      subst b2
      exact ind_up h.2.2.1 hf hp e _ (by omega) b4
