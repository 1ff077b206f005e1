/-! a column in which nothing repeats, class -/
section
variable {x : St} {F : List SFd} {f : Nat}
theorem k_isFlat {post : Int32 → St → Prop} (hL : LC x) (hw : WfS F) (hR : RepC x 70 F) (hf : f < F.length) (p : post (if rF F f = 0 ∧ fTy F f ≠ 4 then 1 else 0) x) : wp_Sch_isFlatColumn post 70 (nI f) x := by
  have h128 := hw.1
  have r17 := rF_le hw hf
  have l74 : fN x 74 = 128 := hL 74 (by decide)
  have l72 : fN x 72 = 128 := hL 72 (by decide)
  have e74 : rA x 74 (nI f) = nI (rF F f) := by rw [rA_nI (by omega)]; exact (hR.2.2.2.1 f hf).2.2.2.1
  have e72 : rA x 72 (nI f) = fTy F f := by rw [rA_nI (by omega)]; exact (hR.2.2.2.1 f hf).2.1
  unfold wp_Sch_isFlatColumn j_Sch_isFlatColumn_23
  rw [show stC 70 5 = 74 from rfl, show stC 70 3 = 72 from rfl, l74, l72, e74, e72]
  refine ⟨vp_in_nI (by omega) (by decide), ?_⟩
  by_cases c : rF F f = 0
  · refine bn_t (by rw [c]; rfl) ⟨vp_in_nI (by omega) (by decide), ?_⟩
    by_cases c4 : fTy F f = 4
    · rw [if_neg (fun z => z.2 c4)] at p
      exact br_t c4 p
    · rw [if_pos ⟨c, c4⟩] at p
      exact br_f c4 p
  · rw [if_neg (fun z => c z.1)] at p
    exact bn_f (fun z => c (nI_inj (b := 0) (by omega) (by decide) z)) p
end
