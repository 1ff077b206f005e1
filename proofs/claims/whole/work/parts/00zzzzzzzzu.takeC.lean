/-! take, end, records, class -/
section
variable {x : St} {l1 : Int32}
theorem k_take {post : St → Prop} {f i : Nat} (h2 : fR x 0 2 = some f) (h1 : fR x 0 1 = some i) (p : post (setI (setI (setR (setR x 0 2 (some i)) 0 1 (some f)) f 1 0) f 2 0)) : wp_V_take post 0 x := by
  unfold wp_V_take
  exact ⟨f, h2, i, h1, nm_e (nm_e ⟨f, gR_at, nm_e (nm_e p)⟩)⟩
theorem k_endV {post : Int32 → St → Prop} {t i c : Nat} (h0 : fR x 0 0 = some t) (h1 : fR x 0 1 = some i) (hc : fI x t 1 = nI c) (p0 : ¬ (0 ≤ l1 ∧ l1 ≤ nI c) → post 0 x) (p1 : 0 ≤ l1 → l1 ≤ nI c → post 1 (setI (setI (setR (setI (setR x 0 1 (some t)) t 1 l1) 0 0 (some i)) i 1 0) i 2 0)) : wp_V_end post 0 l1 x := by
  unfold wp_V_end
  by_cases c1 : l1 < 0
  · exact br_t c1 (p0 (fun z => absurd c1 (Int32.not_lt.mpr z.1)))
  refine br_f c1 ⟨t, h0, ?_⟩
  rw [hc]
  by_cases c2 : l1 ≤ nI c
  · exact br_t c2 ⟨i, h1, t, h0, nm_e ⟨t, gR_at, nm_e (nm_e ⟨i, gR_at, nm_e (nm_e (p1 (Int32.not_lt.mp c1) c2))⟩)⟩⟩
  · exact br_f c2 (p0 (fun z => c2 z.2))
theorem s_records {post : Int32 → St → Prop} {n : Nat} (h : fI x 0 34 = nI n) (p : post (nI n) (setI x 0 0 0)) : wp_Mod_records post x := by
  unfold wp_Mod_records
  refine nm_e ?_
  rw [show fI (setI x 0 0 0) 0 34 = fI x 0 34 from gI_ne (by decide), h]
  exact p
theorem k_records {post : Int32 → St → Prop} {n : Nat} (h : fI x 36 0 = nI n) (p : post (nI n) x) : wp_V_records post 0 x := by
  unfold wp_V_records
  rw [show stC 0 6 = 36 from rfl, h]
  exact p
end
