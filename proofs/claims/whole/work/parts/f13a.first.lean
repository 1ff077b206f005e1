theorem wt0_all : ∀ o, o < 152 → ∀ k, k < 21 → fk (kcC o) k = 2 → ((r0L.getD o []).getD k none).all (fun q => decide (q < 152) && decide (kcC q = rt (kcC o) k)) = true := by decide +kernel
theorem r0_len : ∀ o, o < 152 → (r0L.getD o []).length ≤ 21 := by decide +kernel
theorem wt0C : WT kcC 152 x0C := by
  intro o k q ho hf hq
  have hq : (r0L.getD o []).getD k none = some q := hq
  rcases Nat.lt_or_ge k 21 with z | z
  · have h := wt0_all o ho k z hf
    rw [hq] at h
    have h : (decide (q < 152) && decide (kcC q = rt (kcC o) k)) = true := h
    rw [Bool.and_eq_true, decide_eq_true_eq, decide_eq_true_eq] at h
    exact h
  · rw [List.getD_eq_getElem?_getD, List.getElem?_eq_none (Nat.le_trans (r0_len o ho) z)] at hq
    exact absurd hq (by simp)
theorem wt0M : WT kcM 115 x0M := fun o k q _ _ hq => absurd (show (none : Option Nat) = some q from hq) (by simp)
