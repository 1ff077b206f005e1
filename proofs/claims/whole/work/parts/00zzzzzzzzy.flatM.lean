/-! a field in which nothing repeats, model -/
section
variable {x : St} {F : List SFd} {f : Nat}
theorem s_isFlat {post : Int32 → St → Prop} (hL : LM x) (hw : WfS F) (hR : RepM x 1 F) (hf : f < F.length) (p : post (if rF F f = 0 then 1 else 0) x) : wp_Mod_isFlat post (nI f) x := by
  have h128 := hw.1
  have l3 : fN x 3 = 384 := hL 3
  have l5 : fN x 5 = 384 := hL 5
  unfold wp_Mod_isFlat
  refine lp_Mod_isFlat_4 (fun _ a1 a2 y => x = y ∧ (a2 = -1 ∨ ∃ h, h < F.length ∧ a2 = nI h) ∧ ((a1 = 1 ∧ (rF F f = 0 ↔ upS (wRep (fKd F)) (fPa F) a2 = 0)) ∨ (a1 = 0 ∧ rF F f ≠ 0))) (fun _ _ a2 _ => if a2 = -1 then 0 else a2.toNatClampNeg + 1) ?_ _ _ _ _ ⟨rfl, Or.inr ⟨f, hf, rfl⟩, Or.inl ⟨rfl, Iff.rfl⟩⟩
  rintro R a0 a1 a2 y ⟨rfl, hg, h⟩ ih
  unfold j_Mod_isFlat_4
  rcases hg with rfl | ⟨k, k1, rfl⟩
  · refine br_t rfl ?_
    rcases h with ⟨rfl, h⟩ | ⟨rfl, h⟩
    · rw [if_pos (h.mpr rfl)] at p
      exact ⟨rfl, p⟩
    · rw [if_neg h] at p
      exact ⟨rfl, p⟩
  · refine br_f (nI_nm1 (by omega)) ?_
    have u := upS_at (w := wRep (fKd F)) hw.2.2.1 k1
    -- to the field around it
    have up : ∀ s0 : Int32, ((s0 = 1 ∧ (rF F f = 0 ↔ upS (wRep (fKd F)) (fPa F) (fPa F k) = 0)) ∨ (s0 = 0 ∧ rF F f ≠ 0)) → j_Mod_isFlat_32 post R a0 a1 (nI k) s0 x := fun s0 hs => by
      unfold j_Mod_isFlat_32
      rw [k_plM]
      refine s_up1 hL hw hR k1 ?_
      rcases hw.2.2.1.2 k k1 with z | ⟨v, v1, v2⟩
      · rw [z] at hs ⊢
        exact ih _ _ _ _ ⟨rfl, Or.inl rfl, hs⟩ (by rw [if_pos rfl, if_neg (nI_nm1 (by omega))]; omega)
      · rw [v2] at hs ⊢
        exact ih _ _ _ _ ⟨rfl, Or.inr ⟨v, by omega, rfl⟩, hs⟩ (by rw [if_neg (nI_nm1 (by omega)), if_neg (nI_nm1 (by omega)), nI_clamp (by omega), nI_clamp (by omega)]; omega)
    rcases h with ⟨rfl, h⟩ | ⟨rfl, h⟩
    · refine br_f (by decide) ?_
      rw [k_plM]
      have e3 : rA x 3 ((128 : Int32) * 1 + nI k) = fKd F k := by rw [i128m, rA_nI (by omega)]; exact (hR.2.2.1 k k1).1
      rw [e3, l3]
      refine ⟨by rw [i128m]; exact vp_in_nI (by omega) (by decide), ?_⟩
      by_cases c2 : fKd F k = 2
      · have w1 : wRep (fKd F) k = 1 := if_pos c2
        refine br_t (by rw [c2]; decide) ?_
        unfold j_Mod_isFlat_31
        exact up 0 (Or.inr ⟨rfl, fun z => by have := h.mp z; omega⟩)
      · have w0 : wRep (fKd F) k = 0 := if_neg c2
        have kk := (hw.2.2.2.1 k k1).1
        refine br_f ?_ (up 1 (Or.inl ⟨rfl, by rw [h, u, w0, Nat.zero_add]⟩))
        rcases kk with z | z | z
        · rw [z]; decide
        · rw [z]; decide
        · exact absurd z c2
    · refine br_t rfl ?_
      unfold j_Mod_isFlat_31
      exact up 0 (Or.inr ⟨rfl, h⟩)
end
