/-! cursors and guides are laid, class -/
abbrev FrGu (x y : St) : Prop := Fg no2 no2 no2 (fun a => a = 150 ∨ a = 151) no1 x y
section
variable {x y : St} {F : List SFd} {G : List Nat} {CK : List (List PgW)} {g : Nat}
theorem anc_top {h k leaf : Nat} (hw : WfS F) (hh : h < F.length) (hk : k < F.length) (hl : leaf < F.length) (h2 : dsc F h leaf) (e : fPa F h = -1) (d : dsc F k leaf) : h ≤ k := by
  rcases Nat.lt_or_ge k h with z | z
  · have h128 := hw.1
    have m1 := (dsc_iff hw hk hl).mp d
    have m2 := (dsc_iff hw hh hl).mp h2
    have hd : dsc F k h := (dsc_iff hw hk hh).mpr ⟨by omega, by omega⟩
    obtain ⟨w, w1, w2, -⟩ := dsc_pa hw hh hd (by omega)
    rw [e] at w2
    exact absurd w2.symm (nI_nm1 (by omega))
  · exact z
theorem anc_up {h k v leaf : Nat} (hw : WfS F) (hh : h < F.length) (hk : k < F.length) (hl : leaf < F.length) (h2 : dsc F h leaf) (v1 : v < h) (e : fPa F h = nI v) (d : dsc F k leaf) : v < k ↔ h ≤ k := by
  constructor
  · intro z
    rcases Nat.lt_or_ge k h with y | y
    · have h128 := hw.1
      have m1 := (dsc_iff hw hk hl).mp d
      have m2 := (dsc_iff hw hh hl).mp h2
      have hd : dsc F k h := (dsc_iff hw hk hh).mpr ⟨by omega, by omega⟩
      obtain ⟨w, w1, w2, w3⟩ := dsc_pa hw hh hd (by omega)
      rw [e] at w2
      have := nI_inj (by omega) (by omega) w2
      subst this
      have := dsc_le hw (by omega) w3
      omega
    · exact y
  · intro z; omega
theorem k_guide {post : Int32 → St → Prop} {rec58 : Nat → Int32 → Nat → Int32 → Nat → Nat → St → Prop} {l1 l5 : Int32} {kb nb c : Nat} (hw : WfS F) (hL : LC x) (hR : RepC x 70 F) (hc : c < ncol F)
    (p : ∀ y, FrGu x y → fA y 150 = fA x 150 → (∀ k, k < F.length → fA y 151 k = if dsc F k (lfC F c) then nI c else fA x 151 k) → j_Asm_assembleN_148 post rec58 146 l1 70 (nI c) l5 (-1) 0 kb nb y)
    (pe : ∀ y l6 l7 l6' l7', j_Asm_assembleN_148 post rec58 146 l1 70 (nI c) l5 l6 l7 kb nb y → j_Asm_assembleN_148 post rec58 146 l1 70 (nI c) l5 l6' l7' kb nb y) : j_Asm_assembleN_106 post rec58 146 l1 70 (nI c) l5 (nI (lfC F c)) kb nb x := by
  have h128 := hw.1
  have h64 := hw.2.1
  obtain ⟨l1', l2', -⟩ := lfC_ok hc
  generalize hlf : lfC F c = leaf at *
  have l151 : fN x 151 = 128 := hL 151 (by decide)
  have l73 : fN x 73 = 128 := hL 73 (by decide)
  have dep : upS wOne (fPa F) (nI leaf) ≤ 17 := by
    rw [upS_at (w := wOne) hw.2.2.1 l1']
    have : upS wOne (fPa F) (fPa F leaf) ≤ 16 := by
      rcases hw.2.2.1.2 leaf l1' with z | ⟨v, v1, v2⟩
      · rw [z, show upS wOne (fPa F) (-1) = 0 from rfl]; exact Nat.zero_le _
      · rw [v2]
        exact hw.2.2.2.2.2.1 v (by omega) (hw.2.2.2.2.1 leaf v l1' v2 v1).1
    show 1 + _ ≤ 17
    omega
  unfold j_Asm_assembleN_106
  refine lp_Asm_assembleN_111 (fun a0 a1 a2 a3 a4 a5 a6 ak an y => 146 = a0 ∧ l1 = a1 ∧ 70 = a2 ∧ nI c = a3 ∧ l5 = a4 ∧ kb = ak ∧ nb = an ∧ FrGu x y ∧ fA y 150 = fA x 150 ∧ ∃ i, nI i = a6 ∧ i ≤ 17 ∧ ((a5 = -1 ∧ ∀ k, k < F.length → fA y 151 k = if dsc F k leaf then nI c else fA x 151 k) ∨ ∃ h, a5 = nI h ∧ h < F.length ∧ dsc F h leaf ∧ i + upS wOne (fPa F) (nI h) ≤ 17 ∧ ∀ k, k < F.length → fA y 151 k = if dsc F k leaf ∧ h < k then nI c else fA x 151 k)) (fun _ _ _ _ _ a5 _ _ _ _ => if a5 = -1 then 0 else a5.toNatClampNeg + 1) ?_ _ _ _ _ _ _ _ _ _ _ ⟨rfl, rfl, rfl, rfl, rfl, rfl, rfl, Fg.refl x, rfl, 0, rfl, by omega, Or.inr ⟨leaf, rfl, l1', dsc_self hw l1', by omega, fun k hk => by rw [if_neg (fun z => by have := dsc_le hw l1' z.1; omega)]⟩⟩
  rintro R a0 a1 a2 a3 a4 a5 a6 ak an y ⟨rfl, rfl, rfl, rfl, rfl, rfl, rfl, y1, y2, i, rfl, i1, hh⟩ ih
  have k151 : fN y 151 = 128 := (y1.len 151).trans l151
  have k73 : fN y 73 = 128 := (y1.len 73).trans l73
  have e73 : ∀ k, k < F.length → rA y 73 (nI k) = fPa F k := fun k hk => by rw [rA_nI (by omega), y1.aa (show ¬ (73 = 150 ∨ 73 = 151) by decide)]; exact (hR.2.2.2.1 k hk).2.2.1
  unfold j_Asm_assembleN_111
  rw [show stC 146 3 = 151 from rfl, show stC 70 4 = 73 from rfl, k151]
  rcases hh with ⟨rfl, hh⟩ | ⟨h, rfl, h1, h2, h3, h4⟩
  · have go := p y y1 y2 hh
    by_cases ci : (16 : Int32) < nI i
    · exact br_t ci (pe _ _ _ _ _ go)
    · exact br_f ci (br_t rfl (pe _ _ _ _ _ go))
  · have dh : 1 ≤ upS wOne (fPa F) (nI h) := by
      rw [upS_at (w := wOne) hw.2.2.1 h1]
      show 1 ≤ 1 + _
      omega
    have du := upS_at (w := wOne) hw.2.2.1 h1
    have du : upS wOne (fPa F) (nI h) = 1 + upS wOne (fPa F) (fPa F h) := du
    refine br_f (by (first | omega | (simp (disch := omega) only [Int32.le_iff_toInt_le, Int32.lt_iff_toInt_lt, z_eq, z_in, nI_toInt, z_cl, z_m1, z_sg, z_255, Int32.reduceToInt] <;> omega) | (simp only [Int32.le_iff_toInt_le, Int32.lt_iff_toInt_lt, z_eq, z_in, z_add, z_sub, z_mul, z_neg, z_nI, z_cl, z_sg, z_255, z_lit, Int32.reduceToInt] <;> omega))) (br_f (nI_nm1 (by omega)) ⟨vp_in_nI (by omega) (by decide), nm_e ?_⟩)
    have fu : FrGu y (setA y 151 (nI h) (nI c)) := Fg.a (Or.inr rfl)
    have u150 : fA (setA y 151 (nI h) (nI c)) 150 = fA y 150 := (Fg.a (I := no2) (J := no2) (R := no2) (A := fun a => a = 151) (L := no1) rfl).aa (by decide)
    have uv : ∀ k, k < F.length → fA (setA y 151 (nI h) (nI c)) 151 k = if dsc F k leaf ∧ h ≤ k then nI c else fA x 151 k := fun k hk => by
      by_cases ek : k = h
      · rw [ek, gA_on (by omega), if_pos ⟨h2, Nat.le_refl _⟩]
      · rw [gA_off (by omega) ek, h4 k hk]
        by_cases w : dsc F k leaf ∧ h < k
        · rw [if_pos w, if_pos ⟨w.1, by omega⟩]
        · rw [if_neg w, if_neg (fun z => w ⟨z.1, by omega⟩)]
    have e73' : rA (setA y 151 (nI h) (nI c)) 73 (nI h) = fPa F h := by
      rw [rA_nI (by omega), (Fg.a (x := y) (o := 151) (i := nI h) (v := nI c) (I := no2) (J := no2) (R := no2) (A := fun a => a = 151) (L := no1) rfl).aa (show ¬ 73 = 151 by decide), ← rA_nI (show h < 2 ^ 31 by omega)]
      exact e73 h h1
    have n73 : fN (setA y 151 (nI h) (nI c)) 73 = 128 := k73
    generalize setA y 151 (nI h) (nI c) = u at *
    rw [n73, nI_1]
    refine ⟨vp_in_nI (by omega) (by decide), nm_r e73' ?_⟩
    rcases hw.2.2.1.2 h h1 with z | ⟨v, v1, v2⟩
    · rw [z]
      refine ih _ _ _ _ _ _ _ _ _ _ ⟨rfl, rfl, rfl, rfl, rfl, rfl, rfl, Fg.trans y1 fu, u150.trans y2, i + 1, rfl, by omega, Or.inl ⟨rfl, fun k hk => ?_⟩⟩ (by rw [if_pos rfl, if_neg (nI_nm1 (by omega))]; omega)
      rw [uv k hk]
      by_cases w : dsc F k leaf
      · rw [if_pos w, if_pos ⟨w, anc_top hw h1 hk l1' h2 z w⟩]
      · rw [if_neg w, if_neg (fun q => w q.1)]
    · rw [v2] at du ⊢
      refine ih _ _ _ _ _ _ _ _ _ _ ⟨rfl, rfl, rfl, rfl, rfl, rfl, rfl, Fg.trans y1 fu, u150.trans y2, i + 1, rfl, by omega, Or.inr ⟨v, rfl, by omega, dsc_trans hw (dsc_in hw h1 v1 v2 (dsc_self hw (by omega))) leaf l1' h2, by omega, fun k hk => ?_⟩⟩ (by rw [if_neg (nI_nm1 (by omega)), if_neg (nI_nm1 (by omega)), nI_clamp (by omega), nI_clamp (by omega)]; omega)
      rw [uv k hk]
      by_cases w : dsc F k leaf
      · have au := anc_up hw h1 hk l1' h2 v1 v2 w
        by_cases w2 : h ≤ k
        · rw [if_pos ⟨w, w2⟩, if_pos ⟨w, au.mpr w2⟩]
        · rw [if_neg (fun q => w2 q.2), if_neg (fun q => w2 (au.mp q.2))]
      · rw [if_neg (fun q => w q.1), if_neg (fun q => w q.1)]
end
