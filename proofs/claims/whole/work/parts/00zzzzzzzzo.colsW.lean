/-! all columns' cursors and guides, class -/
section
variable {x y : St} {F : List SFd} {cv : Nat → Int32}
theorem k_colsN {post : Int32 → St → Prop} {r kb nb : Nat} (hw : WfS F) (hL : LC x) (hR : RepC x 70 F) (hcell : ∀ c, c < ncol F → r * ncol F + c < 10000 ∧ fA x 86 (r * ncol F + c) = cv c) (h151 : ∀ k, k < F.length → fA x 151 k = -1)
    (p : ∀ y, FrGu x y → (∀ c, c < ncol F → fA y 150 c = cv c) → (∀ f, f < F.length → fA y 151 f = if gdL F (fun _ => true) f = [] then -1 else nI (gdc F (fun _ => true) f)) → ∃ k6 n7 k8 n9 : Nat, k6 + k8 = kb ∧ n7 + n9 = nb ∧ wp_Asm_writeGroup (fun (x10 : St) => (((fI x10 147 2) = 0 → post (fI x10 147 1) x10) ∧ (¬ (fI x10 147 2) = 0 → wp_Snk_forget (fun (x12 : St) => post (-1) x12) 147 x10))) 146 (-1) 0 k6 n7 y) : ∃ n, wl_Asm_assembleN_58 post n 146 (nI r) 70 (nI (ncol F) - 1) kb nb x := by
  have h128 := hw.1
  have h64 := hw.2.1
  refine lp_Asm_assembleN_58 (fun a0 a1 a2 a3 ak an y => 146 = a0 ∧ nI r = a1 ∧ 70 = a2 ∧ kb = ak ∧ nb = an ∧ FrGu x y ∧ ∃ k, a3 = nI k - 1 ∧ k ≤ ncol F ∧ (∀ c, k ≤ c → c < ncol F → fA y 150 c = cv c) ∧ ∀ f, f < F.length → (fA y 151 f = -1 ∧ ∀ c, k ≤ c → c < ncol F → ¬ dsc F f (lfC F c)) ∨ ∃ m, fA y 151 f = nI m ∧ k ≤ m ∧ m < ncol F ∧ dsc F f (lfC F m) ∧ ∀ c, k ≤ c → c < m → ¬ dsc F f (lfC F c)) (fun _ _ _ a3 _ _ _ => (a3 + 1).toNatClampNeg) ?_ _ _ _ _ _ _ _ ⟨rfl, rfl, rfl, rfl, rfl, Fg.refl x, ncol F, rfl, Nat.le_refl _, fun c h1 h2 => by omega, fun f hf => Or.inl ⟨h151 f hf, fun c h1 h2 => by omega⟩⟩
  rintro R a0 a1 a2 a3 ak an y ⟨rfl, rfl, rfl, rfl, rfl, y1, k, rfl, k1, y2, y3⟩ ih
  have hLy : LC y := fun r hr => (y1.len r).trans (hL r hr)
  have hRy : RepC y 70 F := hR.cg7 (y1.ii id) (y1.ii id) (fun r a b => y1.aa (by omega))
  unfold j_Asm_assembleN_58
  rw [show stC 146 0 = 147 from rfl, show stC 146 1 = 97 from rfl, show stC 146 2 = 150 from rfl, show stC 70 10 = 79 from rfl]
  by_cases ck : k = 0
  · subst ck
    refine br_t (by decide) (p y y1 (fun c hc => y2 c (Nat.zero_le _) hc) (fun f hf => ?_))
    rcases y3 f hf with ⟨e1, e2⟩ | ⟨m, e1, -, m2, m3, m4⟩
    · have : gdL F (fun _ => true) f = [] := by
        unfold gdL
        refine List.filter_eq_nil_iff.mpr (fun c hc z => ?_)
        rw [Bool.and_eq_true] at z
        exact e2 c (Nat.zero_le _) (List.mem_range.mp hc) (of_decide_eq_true z.2)
      rw [if_pos this]; exact e1
    · have eg : gdc F (fun _ => true) f = m := hd_is (p := fun c => true && decide (dsc F f (lfC F c))) m2 (by rw [Bool.and_eq_true]; exact ⟨rfl, decide_eq_true m3⟩) (fun g hg => by
        rw [Bool.true_and]
        exact decide_eq_false (m4 g (Nat.zero_le _) hg))
      have ne : gdL F (fun _ => true) f ≠ [] := fun z => by
        have mem : m ∈ gdL F (fun _ => true) f := List.mem_filter.mpr ⟨List.mem_range.mpr m2, by rw [Bool.and_eq_true]; exact ⟨rfl, decide_eq_true m3⟩⟩
        rw [z] at mem
        exact absurd mem (by simp)
      rw [if_neg ne, eg]; exact e1
  · obtain ⟨c, rfl⟩ : ∃ c, k = c + 1 := ⟨k - 1, by omega⟩
    rw [show nI (c + 1) - 1 = nI c from by rw [show (1 : Int32) = nI 1 from rfl, nI_sub (by omega)]; rfl] at ih ⊢
    obtain ⟨c1, c2⟩ := hcell c (by omega)
    have hc : c < ncol F := by omega
    refine br_f (by (first | omega | (simp (disch := omega) only [Int32.le_iff_toInt_le, Int32.lt_iff_toInt_lt, z_eq, z_in, nI_toInt, z_cl, z_m1, z_sg, z_255, Int32.reduceToInt] <;> omega) | (simp only [Int32.le_iff_toInt_le, Int32.lt_iff_toInt_lt, z_eq, z_in, z_add, z_sub, z_mul, z_neg, z_nI, z_cl, z_sg, z_255, z_lit, Int32.reduceToInt] <;> omega))) (k_entryOf (F := F) (v := cv c) hLy hRy c1 (by rw [y1.aa (show ¬ (86 = 150 ∨ 86 = 151) by decide)]; exact c2) ?_)
    have l150 : fN y 150 = 64 := hLy 150 (by decide)
    refine ⟨by rw [l150]; exact vp_in_nI (by omega) (by decide), nm_e ?_⟩
    have fu : FrGu y (setA y 150 (nI c) (cv c)) := Fg.a (Or.inl rfl)
    have u151 : fA (setA y 150 (nI c) (cv c)) 151 = fA y 151 := (Fg.a (I := no2) (J := no2) (R := no2) (A := fun a => a = 150) (L := no1) rfl).aa (by decide)
    have uon : fA (setA y 150 (nI c) (cv c)) 150 c = cv c := gA_on (by omega)
    have uoff : ∀ k, k ≠ c → fA (setA y 150 (nI c) (cv c)) 150 k = fA y 150 k := fun k hk => gA_off (by omega) hk
    generalize setA y 150 (nI c) (cv c) = u at *
    have hLu : LC u := fun r hr => (fu.len r).trans (hLy r hr)
    have hRu : RepC u 70 F := hRy.cg7 (fu.ii id) (fu.ii id) (fun r a b => fu.aa (by omega))
    have l79 : fN u 79 = 64 := hLu 79 (by decide)
    obtain ⟨q1, q2, q3⟩ := lfC_ok hc
    have e79 : rA u 79 (nI c) = nI (lfC F c) := by
      rw [rA_nI (by omega)]
      have := hRu.2.2.2.2 (lfC F c) q1 q2
      have e3 : ncol (F.take (lfC F c)) = c := q3
      rw [e3] at this
      exact this
    refine ⟨by rw [l79]; exact vp_in_nI (by omega) (by decide), nm_r e79 ?_⟩
    unfold j_Asm_assembleN_100
    refine k_guide hw hLu hRu hc (fun z z1 z2 z3 => ?_) (fun _ _ _ _ _ h => h)
    unfold j_Asm_assembleN_148
    refine ih _ _ _ _ _ _ _ ⟨rfl, rfl, rfl, rfl, rfl, Fg.trans (Fg.trans y1 fu) z1, c, by rw [Int32.sub_eq_add_neg], by omega, fun k h1 h2 => ?_, fun f hf => ?_⟩ ?_
    · rw [z2]
      by_cases ek : k = c
      · rw [ek]; exact uon
      · rw [uoff k ek]; exact y2 k (by omega) h2
    · rw [z3 f hf]
      by_cases w : dsc F f (lfC F c)
      · rw [if_pos w]
        exact Or.inr ⟨c, rfl, Nat.le_refl _, hc, w, fun c' a b => by omega⟩
      · rw [if_neg w, u151]
        rcases y3 f hf with ⟨e1, e2⟩ | ⟨m, e1, m1, m2, m3, m4⟩
        · refine Or.inl ⟨e1, fun c' a b => ?_⟩
          by_cases ec : c' = c
          · rw [ec]; exact w
          · exact e2 c' (by omega) b
        · refine Or.inr ⟨m, e1, by omega, m2, m3, fun c' a b => ?_⟩
          by_cases ec : c' = c
          · rw [ec]; exact w
          · exact m4 c' (by omega) b
    · rw [show nI c + -1 + 1 = nI c from by rw [Int32.add_assoc, show (-1 : Int32) + 1 = 0 from rfl, Int32.add_zero], nI_1, nI_clamp (by omega), nI_clamp (by omega)]
      omega
end
