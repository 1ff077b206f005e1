/-! cursors and guides of wanted fields, class -/
section
variable {x y : St} {F : List SFd}
theorem k_guideW {post : Int32 → St → Prop} {rec58 : Nat → Int32 → Nat → Nat → Int32 → Nat → Nat → St → Prop} {l1 l5 : Int32} {kb nb c wq : Nat} (hw : WfS F) (hL : LC x) (hR : RepC x 70 F) (hc : c < ncol F)
    (p : ∀ y, FrGu x y → fA y 150 = fA x 150 → (∀ k, k < F.length → fA y 151 k = if dsc F k (lfC F c) then nI c else fA x 151 k) → j_Asm_assemble_148 post rec58 146 l1 wq 70 (nI c) l5 (-1) 0 kb nb y)
    (pe : ∀ y l6 l7 l6' l7', j_Asm_assemble_148 post rec58 146 l1 wq 70 (nI c) l5 l6 l7 kb nb y → j_Asm_assemble_148 post rec58 146 l1 wq 70 (nI c) l5 l6' l7' kb nb y) : j_Asm_assemble_106 post rec58 146 l1 wq 70 (nI c) l5 (nI (lfC F c)) kb nb x := by
  have h128 := hw.1
  have h64 := hw.2.1
  obtain ⟨l1', l2', -⟩ := lfC_ok hc
  generalize hlf : lfC F c = leaf at *
  have l151 : fN x 151 = 128 := hL 151 (by decide)
  have l73 : fN x 73 = 128 := hL 73 (by decide)
  have dep : upS wOne (fPa F) (nI leaf) ≤ 17 := by
    rw [upS_at (w := wOne) hw.2.2.1 l1']
    have : upS wOne (fPa F) (fPa F leaf) ≤ 16 := by
      rcases hw.2.2.1.2 leaf l1' with z | ⟨v, v1, v2⟩
      · rw [z, show upS wOne (fPa F) (-1) = 0 from rfl]; exact Nat.zero_le _
      · rw [v2]
        exact hw.2.2.2.2.2.1 v (by omega) (hw.2.2.2.2.1 leaf v l1' v2 v1).1
    show 1 + _ ≤ 17
    omega
  unfold j_Asm_assemble_106
  refine lp_Asm_assemble_111 (fun a0 a1 aw a2 a3 a4 a5 a6 ak an y => 146 = a0 ∧ l1 = a1 ∧ wq = aw ∧ 70 = a2 ∧ nI c = a3 ∧ l5 = a4 ∧ kb = ak ∧ nb = an ∧ FrGu x y ∧ fA y 150 = fA x 150 ∧ ∃ i, nI i = a6 ∧ i ≤ 17 ∧ ((a5 = -1 ∧ ∀ k, k < F.length → fA y 151 k = if dsc F k leaf then nI c else fA x 151 k) ∨ ∃ h, a5 = nI h ∧ h < F.length ∧ dsc F h leaf ∧ i + upS wOne (fPa F) (nI h) ≤ 17 ∧ ∀ k, k < F.length → fA y 151 k = if dsc F k leaf ∧ h < k then nI c else fA x 151 k)) (fun _ _ _ _ _ _ a5 _ _ _ _ => if a5 = -1 then 0 else a5.toNatClampNeg + 1) ?_ _ _ _ _ _ _ _ _ _ _ _ ⟨rfl, rfl, rfl, rfl, rfl, rfl, rfl, rfl, Fg.refl x, rfl, 0, rfl, by omega, Or.inr ⟨leaf, rfl, l1', dsc_self hw l1', by omega, fun k hk => by rw [if_neg (fun z => by have := dsc_le hw l1' z.1; omega)]⟩⟩
  rintro R a0 a1 aw a2 a3 a4 a5 a6 ak an y ⟨rfl, rfl, rfl, rfl, rfl, rfl, rfl, rfl, y1, y2, i, rfl, i1, hh⟩ ih
  have k151 : fN y 151 = 128 := (y1.len 151).trans l151
  have k73 : fN y 73 = 128 := (y1.len 73).trans l73
  have e73 : ∀ k, k < F.length → rA y 73 (nI k) = fPa F k := fun k hk => by rw [rA_nI (by omega), y1.aa (show ¬ (73 = 150 ∨ 73 = 151) by decide)]; exact (hR.2.2.2.1 k hk).2.2.1
  unfold j_Asm_assemble_111
  rw [show stC 146 3 = 151 from rfl, show stC 70 4 = 73 from rfl, k151]
  rcases hh with ⟨rfl, hh⟩ | ⟨h, rfl, h1, h2, h3, h4⟩
  · have go := p y y1 y2 hh
    by_cases ci : (16 : Int32) < nI i
    · exact br_t ci (pe _ _ _ _ _ go)
    · exact br_f ci (br_t rfl (pe _ _ _ _ _ go))
  · have dh : 1 ≤ upS wOne (fPa F) (nI h) := by
      rw [upS_at (w := wOne) hw.2.2.1 h1]
      show 1 ≤ 1 + _
      omega
    have du := upS_at (w := wOne) hw.2.2.1 h1
    have du : upS wOne (fPa F) (nI h) = 1 + upS wOne (fPa F) (fPa F h) := du
    refine br_f (by (first | omega | (simp (disch := omega) only [Int32.le_iff_toInt_le, Int32.lt_iff_toInt_lt, z_eq, z_in, nI_toInt, z_cl, z_m1, z_sg, z_255, Int32.reduceToInt] <;> omega) | (simp only [Int32.le_iff_toInt_le, Int32.lt_iff_toInt_lt, z_eq, z_in, z_add, z_sub, z_mul, z_neg, z_nI, z_cl, z_sg, z_255, z_lit, Int32.reduceToInt] <;> omega))) (br_f (nI_nm1 (by omega)) ⟨vp_in_nI (by omega) (by decide), nm_e ?_⟩)
    have fu : FrGu y (setA y 151 (nI h) (nI c)) := Fg.a (Or.inr rfl)
    have u150 : fA (setA y 151 (nI h) (nI c)) 150 = fA y 150 := (Fg.a (I := no2) (J := no2) (R := no2) (A := fun a => a = 151) (L := no1) rfl).aa (by decide)
    have uv : ∀ k, k < F.length → fA (setA y 151 (nI h) (nI c)) 151 k = if dsc F k leaf ∧ h ≤ k then nI c else fA x 151 k := fun k hk => by
      by_cases ek : k = h
      · rw [ek, gA_on (by omega), if_pos ⟨h2, Nat.le_refl _⟩]
      · rw [gA_off (by omega) ek, h4 k hk]
        by_cases w : dsc F k leaf ∧ h < k
        · rw [if_pos w, if_pos ⟨w.1, by omega⟩]
        · rw [if_neg w, if_neg (fun z => w ⟨z.1, by omega⟩)]
    have e73' : rA (setA y 151 (nI h) (nI c)) 73 (nI h) = fPa F h := by
      rw [rA_nI (by omega), (Fg.a (x := y) (o := 151) (i := nI h) (v := nI c) (I := no2) (J := no2) (R := no2) (A := fun a => a = 151) (L := no1) rfl).aa (show ¬ 73 = 151 by decide), ← rA_nI (show h < 2 ^ 31 by omega)]
      exact e73 h h1
    have n73 : fN (setA y 151 (nI h) (nI c)) 73 = 128 := k73
    generalize setA y 151 (nI h) (nI c) = u at *
    rw [n73, nI_1]
    refine ⟨vp_in_nI (by omega) (by decide), nm_r e73' ?_⟩
    rcases hw.2.2.1.2 h h1 with z | ⟨v, v1, v2⟩
    · rw [z]
      refine ih _ _ _ _ _ _ _ _ _ _ _ ⟨rfl, rfl, rfl, rfl, rfl, rfl, rfl, rfl, Fg.trans y1 fu, u150.trans y2, i + 1, rfl, by omega, Or.inl ⟨rfl, fun k hk => ?_⟩⟩ (by rw [if_pos rfl, if_neg (nI_nm1 (by omega))]; omega)
      rw [uv k hk]
      by_cases w : dsc F k leaf
      · rw [if_pos w, if_pos ⟨w, anc_top hw h1 hk l1' h2 z w⟩]
      · rw [if_neg w, if_neg (fun q => w q.1)]
    · rw [v2] at du ⊢
      refine ih _ _ _ _ _ _ _ _ _ _ _ ⟨rfl, rfl, rfl, rfl, rfl, rfl, rfl, rfl, Fg.trans y1 fu, u150.trans y2, i + 1, rfl, by omega, Or.inr ⟨v, rfl, by omega, dsc_trans hw (dsc_in hw h1 v1 v2 (dsc_self hw (by omega))) leaf l1' h2, by omega, fun k hk => ?_⟩⟩ (by rw [if_neg (nI_nm1 (by omega)), if_neg (nI_nm1 (by omega)), nI_clamp (by omega), nI_clamp (by omega)]; omega)
      rw [uv k hk]
      by_cases w : dsc F k leaf
      · have au := anc_up hw h1 hk l1' h2 v1 v2 w
        by_cases w2 : h ≤ k
        · rw [if_pos ⟨w, w2⟩, if_pos ⟨w, au.mpr w2⟩]
        · rw [if_neg (fun q => w2 q.2), if_neg (fun q => w2 (au.mp q.2))]
      · rw [if_neg (fun q => w q.1), if_neg (fun q => w q.1)]
end
section
variable {x y : St} {F : List SFd} {cv : Nat → Int32}
theorem k_colsW {post : Int32 → St → Prop} {r kb nb wq : Nat} {W : Nat → Bool} (hw : WfS F) (hL : LC x) (hR : RepC x 70 F) (hcell : ∀ c, c < ncol F → r * ncol F + c < 10000 ∧ fA x 86 (r * ncol F + c) = cv c) (hq : wq ≠ 150 ∧ wq ≠ 151) (hq1 : fN x wq = 128) (hq2 : ∀ c, c < ncol F → (W c = true ↔ ¬ fA x wq (lfC F c) = 0)) (h151 : ∀ k, k < F.length → fA x 151 k = -1)
    (p : ∀ y, FrGu x y → (∀ c, c < ncol F → fA y 150 c = cv c) → (∀ f, f < F.length → fA y 151 f = if gdL F W f = [] then -1 else nI (gdc F W f)) → ∃ k6 n7 k8 n9 : Nat, k6 + k8 = kb ∧ n7 + n9 = nb ∧ wp_Asm_writeGroup (fun (x10 : St) => (((fI x10 147 2) = 0 → post (fI x10 147 1) x10) ∧ (¬ (fI x10 147 2) = 0 → wp_Snk_forget (fun (x12 : St) => post (-1) x12) 147 x10))) 146 (-1) 0 k6 n7 y) : ∃ n, wl_Asm_assemble_58 post n 146 (nI r) wq 70 (nI (ncol F) - 1) kb nb x := by
  have h128 := hw.1
  have h64 := hw.2.1
  refine lp_Asm_assemble_58 (fun a0 a1 aw a2 a3 ak an y => 146 = a0 ∧ nI r = a1 ∧ wq = aw ∧ 70 = a2 ∧ kb = ak ∧ nb = an ∧ FrGu x y ∧ ∃ k, a3 = nI k - 1 ∧ k ≤ ncol F ∧ (∀ c, k ≤ c → c < ncol F → fA y 150 c = cv c) ∧ ∀ f, f < F.length → (fA y 151 f = -1 ∧ ∀ c, k ≤ c → c < ncol F → ¬ (W c = true ∧ dsc F f (lfC F c))) ∨ ∃ m, fA y 151 f = nI m ∧ k ≤ m ∧ m < ncol F ∧ (W m = true ∧ dsc F f (lfC F m)) ∧ ∀ c, k ≤ c → c < m → ¬ (W c = true ∧ dsc F f (lfC F c))) (fun _ _ _ _ a3 _ _ _ => (a3 + 1).toNatClampNeg) ?_ _ _ _ _ _ _ _ _ ⟨rfl, rfl, rfl, rfl, rfl, rfl, Fg.refl x, ncol F, rfl, Nat.le_refl _, fun c h1 h2 => by omega, fun f hf => Or.inl ⟨h151 f hf, fun c h1 h2 => by omega⟩⟩
  rintro R a0 a1 aw a2 a3 ak an y ⟨rfl, rfl, rfl, rfl, rfl, rfl, y1, k, rfl, k1, y2, y3⟩ ih
  have hLy : LC y := fun r hr => (y1.len r).trans (hL r hr)
  have hRy : RepC y 70 F := hR.cg7 (y1.ii id) (y1.ii id) (fun r a b => y1.aa (by omega))
  unfold j_Asm_assemble_58
  rw [show stC 146 0 = 147 from rfl, show stC 146 1 = 97 from rfl, show stC 146 2 = 150 from rfl, show stC 70 10 = 79 from rfl]
  by_cases ck : k = 0
  · subst ck
    refine br_t (by decide) (p y y1 (fun c hc => y2 c (Nat.zero_le _) hc) (fun f hf => ?_))
    rcases y3 f hf with ⟨e1, e2⟩ | ⟨m, e1, -, m2, m3, m4⟩
    · have : gdL F W f = [] := by
        unfold gdL
        refine List.filter_eq_nil_iff.mpr (fun c hc z => ?_)
        rw [Bool.and_eq_true] at z
        exact e2 c (Nat.zero_le _) (List.mem_range.mp hc) ⟨z.1, of_decide_eq_true z.2⟩
      rw [if_pos this]; exact e1
    · have eg : gdc F W f = m := hd_is (p := fun c => W c && decide (dsc F f (lfC F c))) m2 (by rw [Bool.and_eq_true]; exact ⟨m3.1, decide_eq_true m3.2⟩) (fun g hg => by
        cases hb : (W g && decide (dsc F f (lfC F g)))
        · rfl
        · rw [Bool.and_eq_true] at hb
          exact absurd ⟨hb.1, of_decide_eq_true hb.2⟩ (m4 g (Nat.zero_le _) hg))
      have ne : gdL F W f ≠ [] := fun z => by
        have mem : m ∈ gdL F W f := List.mem_filter.mpr ⟨List.mem_range.mpr m2, by rw [Bool.and_eq_true]; exact ⟨m3.1, decide_eq_true m3.2⟩⟩
        rw [z] at mem
        exact absurd mem (by simp)
      rw [if_neg ne, eg]; exact e1
  · obtain ⟨c, rfl⟩ : ∃ c, k = c + 1 := ⟨k - 1, by omega⟩
    rw [show nI (c + 1) - 1 = nI c from by rw [show (1 : Int32) = nI 1 from rfl, nI_sub (by omega)]; rfl] at ih ⊢
    obtain ⟨c1, c2⟩ := hcell c (by omega)
    have hc : c < ncol F := by omega
    refine br_f (by (first | omega | (simp (disch := omega) only [Int32.le_iff_toInt_le, Int32.lt_iff_toInt_lt, z_eq, z_in, nI_toInt, z_cl, z_m1, z_sg, z_255, Int32.reduceToInt] <;> omega) | (simp only [Int32.le_iff_toInt_le, Int32.lt_iff_toInt_lt, z_eq, z_in, z_add, z_sub, z_mul, z_neg, z_nI, z_cl, z_sg, z_255, z_lit, Int32.reduceToInt] <;> omega))) (k_entryOf (F := F) (v := cv c) hLy hRy c1 (by rw [y1.aa (show ¬ (86 = 150 ∨ 86 = 151) by decide)]; exact c2) ?_)
    have l150 : fN y 150 = 64 := hLy 150 (by decide)
    refine ⟨by rw [l150]; exact vp_in_nI (by omega) (by decide), nm_e ?_⟩
    have fu : FrGu y (setA y 150 (nI c) (cv c)) := Fg.a (Or.inl rfl)
    have u151 : fA (setA y 150 (nI c) (cv c)) 151 = fA y 151 := (Fg.a (I := no2) (J := no2) (R := no2) (A := fun a => a = 150) (L := no1) rfl).aa (by decide)
    have uon : fA (setA y 150 (nI c) (cv c)) 150 c = cv c := gA_on (by omega)
    have uoff : ∀ k, k ≠ c → fA (setA y 150 (nI c) (cv c)) 150 k = fA y 150 k := fun k hk => gA_off (by omega) hk
    generalize setA y 150 (nI c) (cv c) = u at *
    have hLu : LC u := fun r hr => (fu.len r).trans (hLy r hr)
    have hRu : RepC u 70 F := hRy.cg7 (fu.ii id) (fu.ii id) (fun r a b => fu.aa (by omega))
    have l79 : fN u 79 = 64 := hLu 79 (by decide)
    obtain ⟨q1, q2, q3⟩ := lfC_ok hc
    have e79 : rA u 79 (nI c) = nI (lfC F c) := by
      rw [rA_nI (by omega)]
      have := hRu.2.2.2.2 (lfC F c) q1 q2
      have e3 : ncol (F.take (lfC F c)) = c := q3
      rw [e3] at this
      exact this
    have euq : fA u wq = fA x wq := (fu.aa (by omega)).trans (y1.aa (by omega))
    have nq : fN u wq = 128 := (fu.len wq).trans ((y1.len wq).trans hq1)
    refine ⟨by rw [l79]; exact vp_in_nI (by omega) (by decide), nm_r e79 ⟨by rw [nq]; exact vp_in_nI (by omega) (by decide), ?_⟩⟩
    rw [rA_nI (by omega), euq]
    -- behind the guides of a column
    have nx : ∀ z, FrGu u z → fA z 150 = fA u 150 → (∀ f, f < F.length → fA z 151 f = if W c = true ∧ dsc F f (lfC F c) then nI c else fA u 151 f) → ∀ l5 l6 l7, j_Asm_assemble_148 post R 146 (nI r) wq 70 (nI c) l5 l6 l7 kb nb z := fun z z1 z2 z3 l5 l6 l7 => by
      unfold j_Asm_assemble_148
      refine ih _ _ _ _ _ _ _ _ ⟨rfl, rfl, rfl, rfl, rfl, rfl, Fg.trans (Fg.trans y1 fu) z1, c, by rw [Int32.sub_eq_add_neg], by omega, fun k h1 h2 => ?_, fun f hf => ?_⟩ ?_
      · rw [z2]
        by_cases ek : k = c
        · rw [ek]; exact uon
        · rw [uoff k ek]; exact y2 k (by omega) h2
      · rw [z3 f hf]
        by_cases w : W c = true ∧ dsc F f (lfC F c)
        · rw [if_pos w]
          exact Or.inr ⟨c, rfl, Nat.le_refl _, hc, w, fun c' a b => by omega⟩
        · rw [if_neg w, u151]
          rcases y3 f hf with ⟨e1, e2⟩ | ⟨m, e1, m1, m2, m3, m4⟩
          · refine Or.inl ⟨e1, fun c' a b => ?_⟩
            by_cases ec : c' = c
            · rw [ec]; exact w
            · exact e2 c' (by omega) b
          · refine Or.inr ⟨m, e1, by omega, m2, m3, fun c' a b => ?_⟩
            by_cases ec : c' = c
            · rw [ec]; exact w
            · exact m4 c' (by omega) b
      · rw [show nI c + -1 + 1 = nI c from by rw [Int32.add_assoc, show (-1 : Int32) + 1 = 0 from rfl, Int32.add_zero], nI_1, nI_clamp (by omega), nI_clamp (by omega)]
        omega
    by_cases cw : W c = true
    · refine br_f ((hq2 c hc).mp cw) ?_
      unfold j_Asm_assemble_100
      exact k_guideW hw hLu hRu hc (fun z z1 z2 z3 => nx z z1 z2 (fun f hf => by
        rw [z3 f hf]
        by_cases w : dsc F f (lfC F c)
        · rw [if_pos w, if_pos ⟨cw, w⟩]
        · rw [if_neg w, if_neg (fun q => w q.2)]) _ _ _) (fun _ _ _ _ _ h => h)
    · refine br_t (Classical.byContradiction (fun z => cw ((hq2 c hc).mpr z))) ⟨1, ?_⟩
      show j_Asm_assemble_111 post R _ 146 (nI r) wq 70 (nI c) (nI (lfC F c)) (-1) 0 kb nb u
      unfold j_Asm_assemble_111
      exact br_f (by decide) (br_t rfl (nx u (Fg.refl u) rfl (fun f hf => by rw [if_neg (fun q => cw q.1)]) _ _ _))
end
