/-! a row of what is open goes in step -/
theorem fnd_top {p : Nat → Bool} {g : Nat} : ∀ {N : Nat}, N < 2 ^ 31 → fnd p N = nI g → g < N → ∀ h, g < h → h < N → p h = false := by
  intro N
  induction N with
  | zero => intro _ _ hg; exact absurd hg (Nat.not_lt_zero _)
  | succ N ih =>
    intro hN h hg k k1 k2
    have h : (if p N = true then nI N else fnd p N) = nI g := h
    by_cases c : p N = true
    · rw [if_pos c] at h
      have := nI_inj (by omega) (by omega) h
      omega
    · rw [if_neg c] at h
      by_cases e : k = N
      · rw [e]
        cases hb : p N
        · rfl
        · exact absurd hb c
      · rcases Nat.lt_or_ge g N with z | z
        · exact ih (by omega) h z k k1 (by omega)
        · omega
def ckG (F : List SFd) (CK : List (List PgW)) (g c : Nat) : List SEn := ckC (CK.getD (ncol F * g + c) [])
def recS (F : List SFd) (CK : List (List PgW)) (g j : Nat) : Nat → List SEn := fun c => rwL (ckG F CK g c) j
section
variable {F : List SFd} {G : List Nat} {CK : List (List PgW)} {g : Nat}
theorem lfC_mono {c1 c2 : Nat} (h : c1 ≤ c2) (h2 : c2 < ncol F) : lfC F c1 ≤ lfC F c2 := by
  by_cases e : c1 = c2
  · rw [e]; exact Nat.le_refl _
  · rcases Nat.lt_or_ge (lfC F c2) (lfC F c1) with z | z
    · have := cB_mono (F := F) (Nat.le_of_lt z)
      rw [(lfC_ok h2).2.2, (lfC_ok (show c1 < ncol F by omega)).2.2] at this
      omega
    · exact z
theorem OkO.at (h : OkO F G CK) (hl : CK.length = ncol F * G.length) (hg : g < G.length) {c : Nat} (hc : c < ncol F) : ncol F * g + c < CK.length ∧ (∀ e, e ∈ ckG F CK g c → okE F e ∧ e.1 = c) ∧ ckG F CK g c ≠ [] ∧ ((ckG F CK g c).getD 0 en0).2.1 = 0 ∧ nR (ckG F CK g c) = G.getD g 0 ∧ OrdL F (lfC F c) (ckG F CK g c) ∧ (c ≠ 0 → ¬ aprt F (lfC F (c - 1)) (lfC F c) (ckG F CK g (c - 1)) (ckG F CK g c)) := by
  have hN : 0 < ncol F := by omega
  have ew : (ncol F * g + c) / ncol F = g := by rw [Nat.mul_add_div hN, Nat.div_eq_of_lt hc, Nat.add_zero]
  have em2 : (ncol F * g + c) % ncol F = c := by rw [Nat.mul_add_mod, Nat.mod_eq_of_lt hc]
  have lw : ncol F * g + c < CK.length := by
    have : ncol F * (g + 1) ≤ ncol F * G.length := Nat.mul_le_mul_left _ (by omega)
    rw [Nat.mul_succ] at this
    omega
  obtain ⟨-, h2, h3, h4, h5, h6, -, h8⟩ := h _ lw
  rw [em2] at h2 h6 h8
  rw [ew] at h5
  refine ⟨lw, h2, h3, h4, h5, h6, fun z => ?_⟩
  have := h8 z
  rw [show ncol F * g + c - 1 = ncol F * g + (c - 1) by omega] at this
  exact this
theorem ckG_two (hw : WfS F) (h : OkO F G CK) (hl : CK.length = ncol F * G.length) (hg : g < G.length) {a : Nat} (ha : a < F.length) (ht : fTy F a = 4) : ∀ d c1, c1 + d < ncol F → dsc F a (lfC F c1) → dsc F a (lfC F (c1 + d)) → fl2 (rF F a) (dG F (nI a)) (ckG F CK g c1) = fl2 (rF F a) (dG F (nI a)) (ckG F CK g (c1 + d)) := by
  intro d
  have h128 := hw.1
  induction d with
  | zero => intro c1 _ _ _; rfl
  | succ d ih =>
    intro c1 h1 d1 d2
    have i1 := (dsc_iff hw ha (lfC_ok (show c1 < ncol F by omega)).1).mp d1
    have i2 := (dsc_iff hw ha (lfC_ok h1).1).mp d2
    have m1 := lfC_mono (F := F) (c1 := c1) (c2 := c1 + d) (by omega) (by omega)
    have m2 := lfC_mono (F := F) (c1 := c1 + d) (c2 := c1 + (d + 1)) (by omega) h1
    have l3 := lfC_ok (F := F) (c := c1 + d) (by omega)
    have d3 : dsc F a (lfC F (c1 + d)) := (dsc_iff hw ha l3.1).mpr ⟨by omega, by omega⟩
    rw [ih c1 (by omega) d1 d3]
    have ap := (h.at hl hg h1).2.2.2.2.2.2 (by omega)
    rw [show c1 + (d + 1) - 1 = c1 + d by omega] at ap
    have i3 := (dsc_iff hw ha l3.1).mp d3
    have alt : a < lfC F (c1 + d) := by
      rcases Nat.lt_or_ge a (lfC F (c1 + d)) with z | z
      · exact z
      · have : a = lfC F (c1 + d) := by omega
        exact absurd ht (by rw [this]; exact l3.2.1)
    have pa : decide (dsc F a (lfC F (c1 + d)) ∧ dsc F a (lfC F (c1 + (d + 1)))) = true := decide_eq_true ⟨d3, d2⟩
    rcases fnd_is (p := fun g => decide (dsc F g (lfC F (c1 + d)) ∧ dsc F g (lfC F (c1 + (d + 1))))) (N := lfC F (c1 + d)) with z | ⟨b, b1, b2, b3⟩
    · have := (fnd_some (p := fun g => decide (dsc F g (lfC F (c1 + d)) ∧ dsc F g (lfC F (c1 + (d + 1))))) (by omega)).mp z a alt
      rw [pa] at this
      exact absurd this (by decide)
    · have b4 := of_decide_eq_true b3
      have ab : a ≤ b := by
        rcases Nat.lt_or_ge b a with z | z
        · have := fnd_top (p := fun g => decide (dsc F g (lfC F (c1 + d)) ∧ dsc F g (lfC F (c1 + (d + 1))))) (by omega) b2 b1 a z alt
          rw [pa] at this
          exact absurd this (by decide)
        · exact z
      have er : arnd F (lfC F (c1 + d)) (lfC F (c1 + (d + 1))) = nI b := b2
      unfold aprt at ap
      rw [er, nI_clamp (by omega)] at ap
      have eq := Classical.byContradiction (fun z => ap ⟨nI_nm1 (by omega), z⟩)
      have db : dsc F a b := (dsc_iff hw ha (by omega)).mpr ⟨ab, by omega⟩
      exact fl2_le (rF_mono hw b (by omega) db) (dG_mono hw b (by omega) db) eq
theorem recS_fl (hw : WfS F) (h : OkO F G CK) (hl : CK.length = ncol F * G.length) (hg : g < G.length) {a c1 c2 : Nat} (ha : a < F.length) (ht : fTy F a = 4) (h1 : c1 < ncol F) (h2 : c2 < ncol F) (d1 : dsc F a (lfC F c1)) (d2 : dsc F a (lfC F c2)) : ∀ j, j ≤ G.getD g 0 → fl2 (rF F a) (dG F (nI a)) (recS F CK g j c1) = fl2 (rF F a) (dG F (nI a)) (recS F CK g j c2) := by
  intro j
  induction j with
  | zero =>
    intro _
    rcases Nat.le_total c1 c2 with z | z
    · have := ckG_two hw h hl hg ha ht (c2 - c1) c1 (by omega) d1 (by rw [show c1 + (c2 - c1) = c2 by omega]; exact d2)
      rw [show c1 + (c2 - c1) = c2 by omega] at this
      exact this
    · have := ckG_two hw h hl hg ha ht (c1 - c2) c2 (by omega) d2 (by rw [show c2 + (c1 - c2) = c1 by omega]; exact d1)
      rw [show c2 + (c1 - c2) = c1 by omega] at this
      exact this.symm
  | succ j ih =>
    intro hj
    have p := ih (by omega)
    have k : ∀ c, c < ncol F → hdR' (recS F CK g j c) ≤ rF F a := fun c hc => by
      obtain ⟨-, -, -, o4, o5, -⟩ := h.at hl hg hc
      have := (rwL_ok o4 j (by rw [o5]; omega)).2.1
      show hdR' (rwL (ckG F CK g c) j) ≤ _
      omega
    show fl2 (rF F a) (dG F (nI a)) (rst 0 (recS F CK g j c1)) = fl2 (rF F a) (dG F (nI a)) (rst 0 (recS F CK g j c2))
    rw [fl2_rst (Nat.zero_le _) (fun _ => k c1 h1), fl2_rst (Nat.zero_le _) (fun _ => k c2 h2), p]
theorem recS_ok (hw : WfS F) (h : OkO F G CK) (hl : CK.length = ncol F * G.length) (hg : g < G.length) {j : Nat} (hj : j < G.getD g 0) (W : Nat → Bool) : JG F W (recS F CK g j) (-1) ∧ GdS F W (recS F CK g j) ∧ RoS F W (fun c => (rst 0 (recS F CK g j c)).length) (recS F CK g j) (-1) := by
  have ne : ∀ c, c < ncol F → recS F CK g j c ≠ [] ∧ hdR' (recS F CK g j c) = 0 := fun c hc => by
    obtain ⟨-, -, -, o4, o5, -⟩ := h.at hl hg hc
    have := rwL_ok o4 j (by rw [o5]; omega)
    exact ⟨this.2.2 (by rw [o5]; exact hj), this.2.1⟩
  refine ⟨⟨fun c hc wc hi => ⟨(ne c hc).1, by rw [(ne c hc).2]; exact Nat.zero_le _, Nat.zero_le _⟩, fun a ha ht hi c1 c2 l1 l2 w1 w2 d1 d2 => recS_fl hw h hl hg ha ht l1 l2 d1 d2 j (by omega)⟩, fun c hc wc => ?_, fun c hc wc hi => rst0_RwE (ne c hc).1⟩
  obtain ⟨-, o2, -, -, -, o6, -⟩ := h.at hl hg hc
  obtain ⟨k, k1, -⟩ := rwL_drop (ckG F CK g c) j
  show OrdL F (lfC F c) (rwL (ckG F CK g c) j) ∧ ∀ e, e ∈ rwL (ckG F CK g c) j → okE F e ∧ e.1 = c
  rw [k1]
  exact ⟨o6.drop, fun e he => o2 e (List.mem_of_mem_drop he)⟩
end
