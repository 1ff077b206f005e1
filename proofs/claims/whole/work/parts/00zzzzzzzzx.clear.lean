/-! clear -/
section
variable {x : St}
theorem s_clear {post : St → Prop} (hL : LM x) (p : ∀ y, Fg (fun o k => o = 0 ∧ (k = 0 ∨ k = 34 ∨ k = 35 ∨ k = 36)) no2 no2 (fun a => a = 23) no1 x y → fI y 0 0 = 0 → fI y 0 34 = 0 → fI y 0 35 = 0 → fI y 0 36 = 0 → fA y 23 0 = 0 → post y) : wp_Mod_clear post x := by
  have l23 : fN x 23 = 2001 := hL 23
  unfold wp_Mod_clear wp_Mod_empty
  refine nm_e (nm_e (nm_e (nm_e ⟨?_, nm_e ?_⟩)))
  · show vp_in 0 (fN x 23)
    rw [l23]
    exact vp_in_nI (n := 0) (by decide) (by decide)
  · refine p _ (Fg.trans (Fg.trans (Fg.trans (Fg.trans (Fg.i ⟨rfl, Or.inl rfl⟩) (Fg.i ⟨rfl, Or.inr (Or.inl rfl)⟩)) (Fg.i ⟨rfl, Or.inr (Or.inr (Or.inl rfl))⟩)) (Fg.i ⟨rfl, Or.inr (Or.inr (Or.inr rfl))⟩)) (Fg.a rfl)) ?_ ?_ ?_ ?_ ?_
    · show fI (setI (setI (setI (setI x 0 0 0) 0 34 0) 0 35 0) 0 36 0) 0 0 = 0
      rw [gI_ne (by decide), gI_ne (by decide), gI_ne (by decide), gI_at]
    · show fI (setI (setI (setI (setI x 0 0 0) 0 34 0) 0 35 0) 0 36 0) 0 34 = 0
      rw [gI_ne (by decide), gI_ne (by decide), gI_at]
    · show fI (setI (setI (setI (setI x 0 0 0) 0 34 0) 0 35 0) 0 36 0) 0 35 = 0
      rw [gI_ne (by decide), gI_at]
    · show fI (setI (setI (setI (setI x 0 0 0) 0 34 0) 0 35 0) 0 36 0) 0 36 = 0
      rw [gI_at]
    · exact gA_on (K := 0) (by decide)
theorem k_clear {post : St → Prop} {F : List SFd} (hL : LC x) (p : ∀ y, FrCh x y → RsC y F [] 0 → post y) : wp_V_clear post 0 x := by
  unfold wp_V_clear
  rw [show stC 0 6 = 36 from rfl]
  exact d_forgetR hL p
end
