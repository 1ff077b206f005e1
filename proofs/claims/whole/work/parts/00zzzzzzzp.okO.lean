/-! what is open keeps its order -/
def OrdL (F : List SFd) (leaf : Nat) (C : List SEn) : Prop := ∀ k, 1 ≤ k → k < C.length → (C.getD k en0).2.1 ≠ 0 → dG F (nI (tpR F leaf (C.getD k en0).2.1)) ≤ (C.getD k en0).2.2.1 ∧ dG F (nI (tpR F leaf (C.getD k en0).2.1)) ≤ (C.getD (k - 1) en0).2.2.1
theorem OrdL.app {F : List SFd} {leaf : Nat} {A B : List SEn} (ha : OrdL F leaf A) (hb : OrdL F leaf B) (h0 : (B.getD 0 en0).2.1 = 0) : OrdL F leaf (A ++ B) := by
  intro k k1 k2 k3
  rw [List.length_append] at k2
  by_cases c : k < A.length
  · rw [getD_l c] at k3 ⊢
    rw [getD_l (show k - 1 < A.length by omega)]
    exact ha k k1 c k3
  · obtain ⟨j, rfl⟩ : ∃ j, k = A.length + j := ⟨k - A.length, by omega⟩
    rw [getD_r] at k3 ⊢
    by_cases j0 : j = 0
    · rw [j0] at k3; exact absurd h0 k3
    · rw [show A.length + j - 1 = A.length + (j - 1) by omega, getD_r]
      exact hb j (by omega) (by omega) k3
/-- a chunk of what is open -/
def OkCh (F : List SFd) (G : List Nat) (CK : List (List PgW)) (w : Nat) : Prop := (CK.getD w []) ≠ [] ∧ (∀ e, e ∈ ckC (CK.getD w []) → okE F e ∧ e.1 = w % ncol F) ∧ ckC (CK.getD w []) ≠ [] ∧ ((ckC (CK.getD w [])).getD 0 en0).2.1 = 0 ∧ nR (ckC (CK.getD w [])) = G.getD (w / ncol F) 0 ∧ OrdL F (lfC F (w % ncol F)) (ckC (CK.getD w [])) ∧ (∀ k, k < (CK.getD w []).length → ((CK.getD w []).getD k ([], [])).1 ≠ [] ∧ (((CK.getD w []).getD k ([], [])).1.getD 0 en0).2.1 = 0) ∧ (w % ncol F ≠ 0 → ¬ aprt F (lfC F (w % ncol F - 1)) (lfC F (w % ncol F)) (ckC (CK.getD (w - 1) [])) (ckC (CK.getD w [])))
def OkO (F : List SFd) (G : List Nat) (CK : List (List PgW)) : Prop := ∀ w, w < CK.length → OkCh F G CK w
section
variable {T : Nat → Nat} {F : List SFd} {c st : Nat}
theorem pgO_ord {a b p q : Nat} {L : List SEn} {W : List PV} (hT : ∀ i, T i < 256) (hw : WfS F) (hc : c < ncol F) (h : pgO T F c a b st p = .ok ((L, W), q)) : OrdL F (lfC F c) L := by
  unfold pgO at h
  split at h
  · cases h
  rename_i how R D P W' q' e1
  obtain ⟨k1, k2, k3, k4, k5, k6, k7, k8, k9, k10, k11, k12, k13, k14⟩ := pgR_ok (ty_lt hw hc).1 hT e1
  split at h
  · cases h
  split at h
  · cases h
  split at h
  · cases h
  rename_i c3
  simp only [Except.ok.injEq, Prod.mk.injEq] at h
  obtain ⟨⟨h1, -⟩, -⟩ := h
  subst h1
  intro k i1 i2 i3
  rw [entL_len] at i2
  rw [entL_at i2] at i3 ⊢
  rw [entL_at (show k - 1 < D.length by omega)]
  have i3 : R.getD k 0 ≠ 0 := i3
  have nb : ¬ badO F (lfC F c) R D k := fun z => c3 ⟨k, i2, i1, z⟩
  have e1 : ¬ D.getD k 0 < dG F (nI (tpR F (lfC F c) (R.getD k 0))) := fun z => nb ⟨i3, Or.inl z⟩
  have e2 : ¬ D.getD (k - 1) 0 < dG F (nI (tpR F (lfC F c) (R.getD k 0))) := fun z => nb ⟨i3, Or.inr z⟩
  exact ⟨Nat.not_lt.mp e1, Nat.not_lt.mp e2⟩
theorem pgsO_ord (hT : ∀ i, T i < 256) (hw : WfS F) (hc : c < ncol F) : ∀ d X E p X' q, pgsO T F c st d X E p = .ok (X', q) → OrdL F (lfC F c) (ckC X) → (∀ k, k < X.length → (X.getD k ([], [])).1 ≠ [] ∧ ((X.getD k ([], [])).1.getD 0 en0).2.1 = 0) → OrdL F (lfC F c) (ckC X') ∧ (∀ k, k < X'.length → (X'.getD k ([], [])).1 ≠ [] ∧ ((X'.getD k ([], [])).1.getD 0 en0).2.1 = 0) := by
  intro d
  induction d with
  | zero =>
    intro X E p X' q h h1 h2
    simp only [pgsO, Except.ok.injEq, Prod.mk.injEq] at h
    rw [← h.1]
    exact ⟨h1, h2⟩
  | succ d ih =>
    intro X E p X' q h h1 h2
    simp only [pgsO] at h
    split at h
    · cases h
    rename_i g q1 e1
    obtain ⟨L, W⟩ := g
    obtain ⟨-, -, o3, -, -, -, -, -, -, o10⟩ := pgO_ok hw hc hT e1
    refine ih _ _ _ _ _ h ?_ ?_
    · rw [ckC_add]
      exact h1.app (pgO_ord hT hw hc e1) o10
    · intro k hk
      rw [List.length_append] at hk
      have hk : k < X.length + 1 := hk
      by_cases e : k = X.length
      · rw [e, getD_n]
        exact ⟨fun z => by rw [show L = [] from z] at o3; exact absurd o3 (Nat.lt_irrefl _), o10⟩
      · rw [getD_l (by omega)]
        exact h2 k (by omega)
theorem ckC_head {X : List PgW} (h : X ≠ []) (h2 : ∀ k, k < X.length → (X.getD k ([], [])).1 ≠ [] ∧ ((X.getD k ([], [])).1.getD 0 en0).2.1 = 0) : ckC X ≠ [] ∧ ((ckC X).getD 0 en0).2.1 = 0 := by
  cases X with
  | nil => exact absurd rfl h
  | cons g X =>
    obtain ⟨a, b⟩ := h2 0 (Nat.zero_lt_succ _)
    have a : g.1 ≠ [] := a
    have b : (g.1.getD 0 en0).2.1 = 0 := b
    have e : ckC (g :: X) = g.1 ++ ckC X := rfl
    rw [e]
    refine ⟨fun z => a (List.append_eq_nil_iff.mp z).1, ?_⟩
    rw [getD_l (List.length_pos_iff.mpr a)]
    exact b
theorem cksO_okO {K : List ChT} {G : List Nat} {g : Nat} (hT : ∀ i, T i < 256) (hw : WfS F) (hK : ∀ w, w < K.length → (K.getD w t0).2.1 ≠ 0) : ∀ d c CK A p CK' q, cksO T F K (G.getD g 0) g d c CK A p = .ok (CK', q) → c + d = ncol F → CK.length = ncol F * g + c → ncol F * (g + 1) ≤ K.length → OkO F G CK → (1 ≤ c → A = ckC (CK.getD (CK.length - 1) [])) → OkO F G CK' ∧ CK'.length = ncol F * (g + 1) := by
  intro d
  induction d with
  | zero =>
    intro c CK A p CK' q h h1 h2 h3 h4 h5
    simp only [cksO, Except.ok.injEq, Prod.mk.injEq] at h
    rw [← h.1]
    exact ⟨h4, by rw [h2, Nat.mul_succ]; omega⟩
  | succ d ih =>
    intro c CK A p CK' q h h1 h2 h3 h4 h5
    have hc : c < ncol F := by omega
    simp only [cksO] at h
    split at h
    · cases h
    rename_i X q1 e1
    have em : ncol F * (g + 1) = ncol F * g + ncol F := Nat.mul_succ _ _
    have tk := hK (ncol F * g + c) (by omega)
    generalize K.getD (ncol F * g + c) t0 = t at *
    unfold ckO at e1
    split at e1
    · cases e1
    rename_i X0 q0 e2
    split at e1
    · cases e1
    split at e1
    · cases e1
    rename_i c6 ce
    simp only [Except.ok.injEq, Prod.mk.injEq] at e1
    obtain ⟨rfl, rfl⟩ := e1
    obtain ⟨ok1, lX⟩ := pgsO_all hw hc hT _ _ _ _ _ _ e2 (fun e he => absurd he (by simp [ckC]))
    obtain ⟨od, pg⟩ := pgsO_ord hT hw hc _ _ _ _ _ _ e2 (fun k k1 k2 => absurd k2 (Nat.not_lt_zero _)) (fun k hk => absurd hk (Nat.not_lt_zero _))
    have lX' : X0.length = t.2.1 := by rw [lX]; show 0 + _ = _; omega
    have xne : X0 ≠ [] := fun z => by rw [z] at lX'; exact tk lX'.symm
    obtain ⟨hn, h0⟩ := ckC_head xne pg
    have ce : ckE F c t (G.getD g 0) A (ckC X0) = 0 := Classical.byContradiction (fun z => ce z)
    unfold ckE at ce
    have hN : 0 < ncol F := by omega
    have ew : (ncol F * g + c) / ncol F = g := by rw [Nat.mul_add_div hN, Nat.div_eq_of_lt hc, Nat.add_zero]
    have em2 : (ncol F * g + c) % ncol F = c := by rw [Nat.mul_add_mod, Nat.mod_eq_of_lt hc]
    have c16 : ¬ ((ckC X0).length ≠ t.2.2.1 ∨ nR (ckC X0) ≠ G.getD g 0) := fun z => by rw [if_pos z] at ce; exact absurd ce (by decide)
    rw [if_neg c16] at ce
    have apt : c ≠ 0 → ¬ aprt F (lfC F (c - 1)) (lfC F c) A (ckC X0) := fun z1 z2 => by
      split at ce
      · exact absurd ce (by decide)
      split at ce
      · exact absurd ce (by decide)
      split at ce
      · exact absurd ce (by decide)
      rw [if_pos ⟨z1, z2⟩] at ce
      exact absurd ce (by decide)
    refine ih (c + 1) _ _ _ _ _ h (by omega) (by rw [List.length_append, h2]; rfl) h3 (fun w hw' => ?_) (fun _ => ?_)
    · rw [List.length_append] at hw'
      have hw' : w < CK.length + 1 := hw'
      by_cases e : w = CK.length
      · unfold OkCh
        rw [e, getD_n, h2, em2, ew]
        refine ⟨xne, ok1, hn, h0, Classical.byContradiction (fun z => c16 (Or.inr z)), od, pg, fun z => ?_⟩
        have := apt z
        rw [h5 (by omega), h2] at this
        rw [getD_l (by omega)]
        exact this
      · have := h4 w (by omega)
        unfold OkCh at this ⊢
        rw [getD_l (by omega), getD_l (show w - 1 < CK.length by omega)]
        exact this
    · rw [List.length_append, show CK.length + [X0].length - 1 = CK.length from Nat.add_sub_cancel _ _, getD_n]
theorem grpO_okO {K : List ChT} {G : List Nat} (hT : ∀ i, T i < 256) (hw : WfS F) (hK : ∀ w, w < K.length → (K.getD w t0).2.1 ≠ 0) (hKl : K.length = ncol F * G.length) : ∀ d g CK p CK' q, grpO T F G K d g CK p = .ok (CK', q) → g + d = G.length → CK.length = ncol F * g → OkO F G CK → OkO F G CK' ∧ CK'.length = ncol F * G.length := by
  intro d
  induction d with
  | zero =>
    intro g CK p CK' q h h1 h2 h3
    simp only [grpO, Except.ok.injEq, Prod.mk.injEq] at h
    rw [← h.1]
    exact ⟨h3, by rw [h2]; congr 1⟩
  | succ d ih =>
    intro g CK p CK' q h h1 h2 h3
    simp only [grpO] at h
    split at h
    · cases h
    rename_i CK1 q1 e1
    have le : ncol F * (g + 1) ≤ K.length := by rw [hKl]; exact Nat.mul_le_mul_left _ (by omega)
    obtain ⟨a, b⟩ := cksO_okO hT hw hK _ _ _ _ _ _ _ e1 (Nat.zero_add _) h2 le h3 (fun z => absurd z (by decide))
    exact ih _ _ _ _ _ h (by omega) b a
theorem tdsO_nz (hT : ∀ i, T i < 256) : ∀ d c K p K' q, tdsO T F st d c K p = .ok (K', q) → (∀ t, t ∈ K → t.2.1 ≠ 0) → ∀ t, t ∈ K' → t.2.1 ≠ 0 := by
  intro d
  induction d with
  | zero =>
    intro c K p K' q h h1
    simp only [tdsO, Except.ok.injEq, Prod.mk.injEq] at h
    rw [← h.1]; exact h1
  | succ d ih =>
    intro c K p K' q h h1
    simp only [tdsO] at h
    split at h
    · cases h
    rename_i t q1 e
    refine ih _ _ _ _ _ h (fun s hs => ?_)
    rcases List.mem_append.mp hs with z | z
    · exact h1 s z
    · rw [List.mem_singleton.mp z]; exact (tdR_ok hT e).2.2.1
theorem gpsO_nzK (hT : ∀ i, T i < 256) : ∀ d G K p G' K' q, gpsO T F st d G K p = .ok ((G', K'), q) → (∀ t, t ∈ K → t.2.1 ≠ 0) → ∀ t, t ∈ K' → t.2.1 ≠ 0 := by
  intro d
  induction d with
  | zero =>
    intro G K p G' K' q h h1
    simp only [gpsO, Except.ok.injEq, Prod.mk.injEq] at h
    rw [← h.1.2]; exact h1
  | succ d ih =>
    intro G K p G' K' q h h1
    simp only [gpsO] at h
    split at h
    · cases h
    split at h
    · cases h
    split at h
    · cases h
    rename_i K1 q1 e
    exact ih _ _ _ _ _ _ h (tdsO_nz hT _ _ _ _ _ _ e h1)
end
theorem opO_okO {T : Nat → Nat} {n : Nat} {F : List SFd} {rows : Nat} {G : List Nat} {K : List ChT} {CK : List (List PgW)} (hT : ∀ i, T i < 256) (hn : n ≤ 40000) (hw : WfS F) (h : opO T n = .ok (F, rows, G, K, CK)) : OkO F G CK ∧ CK.length = ncol F * G.length := by
  unfold opO at h
  split at h
  · cases h
  rename_i F' rows' G' K' e1
  split at h
  · cases h
  rename_i CK' q e2
  simp only [Except.ok.injEq, Prod.mk.injEq] at h
  obtain ⟨rfl, rfl, rfl, rfl, rfl⟩ := h
  unfold ftO at e1
  split at e1
  · cases e1
  split at e1
  · cases e1
  split at e1
  · cases e1
  unfold ftO2 at e1
  split at e1
  · cases e1
  rename_i F2 qa ea
  split at e1
  · cases e1
  rename_i r2 qb eb
  split at e1
  · cases e1
  rename_i gs qc ec
  split at e1
  · cases e1
  rename_i G2 K2 qd ed
  split at e1
  · cases e1
  split at e1
  · cases e1
  split at e1
  · cases e1
  simp only [Except.ok.injEq, Prod.mk.injEq] at e1
  obtain ⟨rfl, rfl, rfl, rfl⟩ := e1
  have oc := nm4_ok hT ec
  obtain ⟨-, gl, -, kl, -⟩ := gpsO_pre hT _ _ _ _ _ _ _ ed (by omega)
  have gl : G2.length = gs := by rw [gl]; show 0 + _ = _; omega
  have kl : K2.length = ncol F2 * G2.length := by rw [kl, gl]; show 0 + _ = _; omega
  have nz := gpsO_nzK hT _ _ _ _ _ _ _ ed (fun t ht => absurd ht (by simp))
  exact grpO_okO hT hw (fun w hw' => nz _ (by rw [List.getD_eq_getElem?_getD, List.getElem?_eq_getElem hw']; exact List.getElem_mem hw')) kl _ _ _ _ _ _ e2 (Nat.zero_add _) (by rw [Nat.mul_zero]; rfl) (fun w hw' => absurd hw' (Nat.not_lt_zero _))
