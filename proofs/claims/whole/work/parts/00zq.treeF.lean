/-! fields within fields -/
abbrev dsc (F : List SFd) (a b : Nat) : Prop := upS (ind a) (fPa F) (nI b) = 1
theorem dsc_self {F : List SFd} {a : Nat} (hw : WfS F) (h : a < F.length) : dsc F a a := ind_self hw.2.2.1 h
theorem dsc_le {F : List SFd} {a b : Nat} (hw : WfS F) (h : b < F.length) (d : dsc F a b) : a ≤ b := by
  rcases Nat.lt_or_ge b a with c | c
  · have := ind_0 hw.2.2.1 b h c
    have d : upS (ind a) (fPa F) (nI b) = 1 := d
    omega
  · exact c
/-- within a field, and not the field: the field around is within it -/
theorem dsc_pa {F : List SFd} {a b : Nat} (hw : WfS F) (h : b < F.length) (d : dsc F a b) (hne : b ≠ a) : ∃ g, g < b ∧ fPa F b = nI g ∧ dsc F a g := by
  have d : upS (ind a) (fPa F) (nI b) = 1 := d
  rw [upS_at hw.2.2.1 h, show ind a b = 0 from if_neg hne] at d
  rcases hw.2.2.1.2 b h with z | ⟨g, hg, z⟩
  · rw [z, upS_neg] at d; omega
  · rw [z] at d
    exact ⟨g, hg, z, by show upS _ _ _ = 1; omega⟩
theorem dsc_in {F : List SFd} {a b g : Nat} (hw : WfS F) (h : b < F.length) (hg : g < b) (e : fPa F b = nI g) (d : dsc F a g) : dsc F a b := by
  have hag := dsc_le hw (by omega) d
  show upS (ind a) (fPa F) (nI b) = 1
  rw [upS_at hw.2.2.1 h, show ind a b = 0 from if_neg (by omega), e]
  have d : upS (ind a) (fPa F) (nI g) = 1 := d
  omega
theorem dsc_trans {F : List SFd} {a b : Nat} (hw : WfS F) (d : dsc F a b) : ∀ c, c < F.length → dsc F b c → dsc F a c := by
  intro c
  induction c using Nat.strongRecOn with
  | ind c ih =>
    intro hc e
    by_cases k : c = b
    · rw [k]; exact d
    · obtain ⟨g, g1, g2, g3⟩ := dsc_pa hw hc e k
      exact dsc_in hw hc g1 g2 (ih g g1 (by omega) g3)
theorem dsc_prev {F : List SFd} {a h : Nat} (hw : WfS F) (hh : h < F.length) (ha : a < h) (d : dsc F a h) : dsc F a (h - 1) := by
  obtain ⟨g, g1, g2, g3⟩ := dsc_pa hw hh d (by omega)
  exact dsc_trans hw g3 (h - 1) (by omega) (hw.2.2.2.2.1 h g hh g2 g1).2
theorem pst_top {P : Nat → Int32} {f : Nat} : ∀ N, pst P f N = f + 1 ∨ ∃ h, h < N ∧ pst P f N = h + 1 ∧ upS (ind f) P (nI h) = 1 := by
  intro N
  induction N with
  | zero => exact Or.inl rfl
  | succ N ih =>
    by_cases c : upS (ind f) P (nI N) = 1
    · exact Or.inr ⟨N, by omega, by show (if upS (ind f) P (nI N) = 1 then N + 1 else pst P f N) = _; rw [if_pos c], c⟩
    · have e : pst P f (N + 1) = pst P f N := by show (if upS (ind f) P (nI N) = 1 then N + 1 else pst P f N) = _; rw [if_neg c]
      rw [e]
      rcases ih with z | ⟨h, h1, h2, h3⟩
      · exact Or.inl z
      · exact Or.inr ⟨h, by omega, h2, h3⟩
theorem dsc_iff {F : List SFd} {f h : Nat} (hw : WfS F) (hf : f < F.length) (hh : h < F.length) : dsc F f h ↔ f ≤ h ∧ h < pB F f := by
  constructor
  · exact fun d => ⟨dsc_le hw hh d, pst_in hh d⟩
  · rintro ⟨a, b⟩
    have b : h < pst (fPa F) f F.length := b
    rcases @pst_top (fPa F) f F.length with z | ⟨t, t1, t2, t3⟩
    · rw [show h = f by omega]; exact dsc_self hw hf
    · have go : ∀ m, m ≤ t - f → dsc F f (t - m) := by
        intro m
        induction m with
        | zero => intro _; exact t3
        | succ m ih =>
          intro hm
          have := dsc_prev hw (show t - m < F.length by omega) (by omega) (ih (by omega))
          rw [show t - (m + 1) = t - m - 1 by omega]
          exact this
      have := go (t - h) (by omega)
      rw [show t - (t - h) = h by omega] at this
      exact this
theorem pB_gt {F : List SFd} {f : Nat} (hw : WfS F) (hf : f < F.length) : f < pB F f := ((dsc_iff hw hf hf).mp (dsc_self hw hf)).2
theorem pB_le {F : List SFd} {f : Nat} (hf : f < F.length) : pB F f ≤ F.length := pst_le hf
/-- the fields of a group -/
theorem kid_in {F : List SFd} {h : Nat} {g : Int32} (hw : WfS F) (hg : gOk F.length g) (hh : h < F.length) (e : fPa F h = g) : fG g ≤ h ∧ h < pG F g := by
  have h1 := hw.1
  rcases hg with rfl | ⟨f, hf, rfl⟩
  · refine ⟨?_, ?_⟩
    · rw [show fG (-1) = 0 from rfl]; omega
    · rw [show pG F (-1) = F.length from rfl]; exact hh
  · have nn : ¬ nI f = -1 := nI_nm1 (by omega)
    have hfh : f < h := by
      rcases hw.2.2.1.2 h hh with z | ⟨k, hk, z⟩
      · rw [z] at e; exact absurd e.symm nn
      · rw [z, nI_eq (by omega) (by omega)] at e; omega
    unfold fG pG
    rw [if_neg nn, if_neg nn, nI_clamp (by omega)]
    exact ⟨hfh, pst_child hw hh e hfh⟩
/-- fr: 0, or behind a field of the group -/
def frV (F : List SFd) (g : Int32) (fr : Nat) : Prop := fr = 0 ∨ ∃ f, fr = f + 1 ∧ f < F.length ∧ fPa F f = g
theorem fcO_iff {F : List SFd} {g : Int32} {fr h : Nat} (hw : WfS F) (hg : gOk F.length g) (hv : frV F g fr) (hh : h < F.length) (e : fPa F h = g) : fcO F g fr ≤ h ↔ fr ≤ h := by
  unfold fcO
  rcases hv with rfl | ⟨f, rfl, f1, f2⟩
  · rw [if_pos rfl]
    exact ⟨fun _ => Nat.zero_le _, fun _ => (kid_in hw hg hh e).1⟩
  · rw [if_neg (by omega), Nat.add_sub_cancel]
    have := pB_gt hw f1
    refine ⟨fun z => by omega, fun z => ?_⟩
    rcases Nat.lt_or_ge h (pB F f) with c | c
    · exfalso
      obtain ⟨k, k1, k2, k3⟩ := dsc_pa hw hh ((dsc_iff hw f1 hh).mpr ⟨by omega, c⟩) (by omega)
      have hfk := dsc_le hw (by omega) k3
      rw [e, ← f2] at k2
      rcases hw.2.2.1.2 f f1 with z2 | ⟨u, hu, z2⟩
      · rw [z2] at k2; exact absurd k2.symm (nI_nm1 (by have := hw.1; omega))
      · have h1 := hw.1
        rw [z2, nI_eq (by omega) (by omega)] at k2
        omega
    · exact c
theorem fcO_le {F : List SFd} {g : Int32} {fr : Nat} (hw : WfS F) (hg : gOk F.length g) (hv : frV F g fr) : fcO F g fr ≤ F.length ∧ fcO F g fr ≤ pG F g := by
  have h1 := hw.1
  have hG : ∀ f, f < F.length → pG F (nI f) = pB F f := fun f hf => by unfold pG; rw [if_neg (nI_nm1 (by omega)), nI_clamp (by omega)]
  unfold fcO
  rcases hv with rfl | ⟨f, rfl, f1, f2⟩
  · rw [if_pos rfl]
    rcases hg with rfl | ⟨f, hf, rfl⟩
    · exact ⟨Nat.zero_le _, Nat.zero_le _⟩
    · have := pB_gt hw hf
      have := pB_le hf
      rw [hG f hf]
      unfold fG
      rw [if_neg (nI_nm1 (by omega)), nI_clamp (by omega)]
      omega
  · rw [if_neg (by omega), Nat.add_sub_cancel]
    have hb := pB_le f1
    refine ⟨hb, ?_⟩
    rcases hg with rfl | ⟨g0, hg0, rfl⟩
    · exact hb
    · rw [hG g0 hg0]
      have hgf : g0 < f := by
        rcases hw.2.2.1.2 f f1 with z | ⟨k, hk, z⟩
        · rw [z] at f2; exact absurd f2.symm (nI_nm1 (by omega))
        · rw [z, nI_eq (by omega) (by omega)] at f2; omega
      have hp := pB_gt hw f1
      have d : dsc F f (pB F f - 1) := (dsc_iff hw f1 (by omega)).mpr ⟨by omega, by omega⟩
      have d2 : dsc F g0 f := dsc_in hw f1 hgf f2 (dsc_self hw hg0)
      have := ((dsc_iff hw hg0 (by omega)).mp (dsc_trans hw d2 _ (by omega) d)).2
      omega
theorem pG_le {F : List SFd} {g : Int32} (hw : WfS F) (hg : gOk F.length g) : pG F g ≤ F.length := by
  have h1 := hw.1
  rcases hg with rfl | ⟨f, hf, rfl⟩
  · exact Nat.le_refl _
  · unfold pG
    rw [if_neg (nI_nm1 (by omega)), nI_clamp (by omega)]
    exact pB_le hf
theorem miss_fc {F : List SFd} {g : Int32} {fr b c : Nat} (hw : WfS F) (hg : gOk F.length g) (hv : frV F g fr) (hb : b ≤ F.length) (hc : c ≤ F.length) (hbc : ∀ h, h < F.length → fPa F h = g → (h < b ↔ h < c)) : missF F g (fcO F g fr) b = missF F g fr c := by
  have key : missF F g (fcO F g fr) b = true ↔ missF F g fr c = true := by
    rw [missF_iff, missF_iff]
    constructor
    · rintro ⟨f, f1, f2, f3, f4⟩
      exact ⟨f, (fcO_iff hw hg hv (by omega) f3).mp f1, (hbc f (by omega) f3).mp f2, f3, f4⟩
    · rintro ⟨f, f1, f2, f3, f4⟩
      exact ⟨f, (fcO_iff hw hg hv (by omega) f3).mpr f1, (hbc f (by omega) f3).mpr f2, f3, f4⟩
  by_cases d : missF F g fr c = true
  · rw [d, key.mpr d]
  · rw [bt_f d, bt_f (fun z => d (key.mp z))]
/-- levels are small -/
theorem up17 {F : List SFd} {w : Nat → Nat} {g : Int32} (hw : WfS F) (hg : gOk F.length g) (h1 : ∀ f, w f ≤ 1) : upS w (fPa F) g ≤ 17 := by
  have hF := hw.1
  have le1 : ∀ f, f < F.length → upS w (fPa F) (nI f) ≤ upS wOne (fPa F) (nI f) := by
    intro f
    induction f using Nat.strongRecOn with
    | ind f ih =>
      intro hf
      rw [upS_at hw.2.2.1 hf, upS_at hw.2.2.1 hf]
      have := h1 f
      show w f + _ ≤ 1 + _
      rcases hw.2.2.1.2 f hf with z | ⟨k, hk, z⟩
      · rw [z, upS_neg, upS_neg]; omega
      · rw [z]
        have := ih k hk (by omega)
        omega
  rcases hg with rfl | ⟨f, hf, rfl⟩
  · rw [upS_neg]; decide
  · have a := le1 f hf
    rw [upS_at (w := wOne) hw.2.2.1 hf] at a
    rcases hw.2.2.1.2 f hf with z | ⟨k, hk, z⟩
    · rw [z, upS_neg] at a
      have a : upS w (fPa F) (nI f) ≤ 1 + 0 := a
      omega
    · have b := hw.2.2.2.2.2.1 k (by omega) (hw.2.2.2.2.1 f k hf z hk).1
      rw [z] at a
      have a : upS w (fPa F) (nI f) ≤ 1 + upS wOne (fPa F) (nI k) := a
      omega
theorem wRep1 (K : Nat → Int32) (f : Nat) : wRep K f ≤ 1 := by unfold wRep; split <;> omega
theorem wDef1 (K : Nat → Int32) (f : Nat) : wDef K f ≤ 1 := by unfold wDef; split <;> omega
theorem dG_le {F : List SFd} {g : Int32} (hw : WfS F) (hg : gOk F.length g) : dG F g ≤ 17 := up17 hw hg (wDef1 _)
theorem rF_le {F : List SFd} {f : Nat} (hw : WfS F) (hf : f < F.length) : rF F f ≤ 17 := up17 hw (Or.inr ⟨f, hf, rfl⟩) (wRep1 _)
