/-! what is told of chunks is so; rows of a chunk -/
def KtO (F : List SFd) (G : List Nat) (K : List ChT) (CK : List (List PgW)) : Prop := ∀ w, w < CK.length → ∃ A, ckE F (w % ncol F) (K.getD w t0) (G.getD (w / ncol F) 0) A (ckC (CK.getD w [])) = 0
section
variable {T : Nat → Nat} {F : List SFd} {c st : Nat}
theorem cksO_ktO {K : List ChT} {G : List Nat} {g : Nat} : ∀ d c CK A p CK' q, cksO T F K (G.getD g 0) g d c CK A p = .ok (CK', q) → c + d = ncol F → CK.length = ncol F * g + c → KtO F G K CK → KtO F G K CK' ∧ CK'.length = ncol F * (g + 1) := by
  intro d
  induction d with
  | zero =>
    intro c CK A p CK' q h h1 h2 h4
    simp only [cksO, Except.ok.injEq, Prod.mk.injEq] at h
    rw [← h.1]
    exact ⟨h4, by rw [h2, Nat.mul_succ]; omega⟩
  | succ d ih =>
    intro c CK A p CK' q h h1 h2 h4
    have hc : c < ncol F := by omega
    simp only [cksO] at h
    split at h
    · cases h
    rename_i X q1 e1
    unfold ckO at e1
    split at e1
    · cases e1
    rename_i X0 q0 e2
    split at e1
    · cases e1
    split at e1
    · cases e1
    rename_i c6 ce
    simp only [Except.ok.injEq, Prod.mk.injEq] at e1
    obtain ⟨rfl, rfl⟩ := e1
    have ce : ckE F c (K.getD (ncol F * g + c) t0) (G.getD g 0) A (ckC X0) = 0 := Classical.byContradiction (fun z => ce z)
    have hN : 0 < ncol F := by omega
    have ew : (ncol F * g + c) / ncol F = g := by rw [Nat.mul_add_div hN, Nat.div_eq_of_lt hc, Nat.add_zero]
    have em2 : (ncol F * g + c) % ncol F = c := by rw [Nat.mul_add_mod, Nat.mod_eq_of_lt hc]
    refine ih (c + 1) _ _ _ _ _ h (by omega) (by rw [List.length_append, h2]; rfl) (fun w hw' => ?_)
    rw [List.length_append] at hw'
    have hw' : w < CK.length + 1 := hw'
    by_cases e : w = CK.length
    · rw [e, getD_n, h2, em2, ew]
      exact ⟨A, ce⟩
    · rw [getD_l (by omega)]
      exact h4 w (by omega)
theorem grpO_ktO {K : List ChT} {G : List Nat} : ∀ d g CK p CK' q, grpO T F G K d g CK p = .ok (CK', q) → CK.length = ncol F * g → KtO F G K CK → KtO F G K CK' := by
  intro d
  induction d with
  | zero =>
    intro g CK p CK' q h h2 h3
    simp only [grpO, Except.ok.injEq, Prod.mk.injEq] at h
    rw [← h.1]
    exact h3
  | succ d ih =>
    intro g CK p CK' q h h2 h3
    simp only [grpO] at h
    split at h
    · cases h
    rename_i CK1 q1 e1
    obtain ⟨a, b⟩ := cksO_ktO _ _ _ _ _ _ _ e1 (Nat.zero_add _) h2 h3
    exact ih _ _ _ _ _ h b a
end
theorem opO_ktO {T : Nat → Nat} {n : Nat} {F : List SFd} {rows : Nat} {G : List Nat} {K : List ChT} {CK : List (List PgW)} (h : opO T n = .ok (F, rows, G, K, CK)) : KtO F G K CK := by
  unfold opO at h
  split at h
  · cases h
  rename_i F' rows' G' K' e1
  split at h
  · cases h
  rename_i CK' q e2
  simp only [Except.ok.injEq, Prod.mk.injEq] at h
  obtain ⟨rfl, rfl, rfl, rfl, rfl⟩ := h
  exact grpO_ktO _ _ _ _ _ _ e2 rfl (fun w hw => absurd hw (Nat.not_lt_zero _))
theorem KtO.len {F : List SFd} {G : List Nat} {K : List ChT} {CK : List (List PgW)} (h : KtO F G K CK) {w : Nat} (hw : w < CK.length) : (K.getD w t0).2.2.1 = (ckC (CK.getD w [])).length := by
  obtain ⟨A, hA⟩ := h w hw
  unfold ckE at hA
  split at hA
  · exact absurd hA (by decide)
  · rename_i c
    exact Classical.byContradiction (fun z => c (Or.inl (fun y => z y.symm)))
/-- rows of a chunk: what is left of it from a row on -/
def rwL (C : List SEn) : Nat → List SEn
  | 0 => C
  | j + 1 => rst 0 (rwL C j)
theorem nR_cons {e : SEn} {S : List SEn} : nR (e :: S) = (if e.2.1 = 0 then 1 else 0) + nR S := by
  rw [show e :: S = [e] ++ S from rfl, nR_app, nR_one]
theorem nR_dw : ∀ S : List SEn, nR (S.dropWhile (fun e => decide (0 < e.2.1))) = nR S := by
  intro S
  induction S with
  | nil => rfl
  | cons e S ih =>
    by_cases c : 0 < e.2.1
    · rw [List.dropWhile_cons, if_pos (decide_eq_true c), ih, nR_cons, if_neg (by omega), Nat.zero_add]
    · rw [List.dropWhile_cons, if_neg (by rw [decide_eq_false c]; decide)]
theorem rwL_ok {C : List SEn} (h0 : (C.getD 0 en0).2.1 = 0) : ∀ j, j ≤ nR C → nR (rwL C j) = nR C - j ∧ hdR' (rwL C j) = 0 ∧ (j < nR C → rwL C j ≠ []) := by
  have nz : ∀ S : List SEn, 0 < nR S → S ≠ [] := fun S h z => by rw [z] at h; exact absurd h (Nat.lt_irrefl _)
  intro j
  induction j with
  | zero => intro _; exact ⟨rfl, h0, fun h => nz _ h⟩
  | succ j ih =>
    intro hj
    obtain ⟨a, b, c⟩ := ih (by omega)
    have ne := c (by omega)
    have a' : nR (rwL C (j + 1)) = nR C - (j + 1) := by
      show nR (rst 0 (rwL C j)) = _
      generalize rwL C j = S at *
      cases S with
      | nil => exact absurd rfl ne
      | cons e S =>
        have b : e.2.1 = 0 := b
        rw [nR_cons, if_pos b] at a
        show nR (S.dropWhile _) = _
        rw [nR_dw]
        omega
    refine ⟨a', ?_, fun h => nz _ (by omega)⟩
    by_cases z : rwL C (j + 1) = []
    · rw [z]; rfl
    · exact Nat.le_zero.mp (rst_hd (r := 0) (S := rwL C j) z)
theorem rwL_drop (C : List SEn) : ∀ j, ∃ k, rwL C j = C.drop k ∧ k ≤ C.length := by
  intro j
  induction j with
  | zero => exact ⟨0, rfl, Nat.zero_le _⟩
  | succ j ih =>
    obtain ⟨k, k1, k2⟩ := ih
    by_cases z : rwL C j = []
    · exact ⟨k, by show rst 0 (rwL C j) = _; rw [← k1, z]; rfl, k2⟩
    · obtain ⟨i, i1, i2, i3, -⟩ := rst_is 0 z
      refine ⟨k + i, ?_, ?_⟩
      · show rst 0 (rwL C j) = _
        rw [i3, k1, List.drop_drop]
      · rw [k1, List.length_drop] at i2
        omega
/-- the row's end of what is left -/
theorem rst0_RwE {L : List SEn} (h : L ≠ []) : RwE L (rst 0 L).length := by
  obtain ⟨k, k1, k2, k3, -, k5⟩ := rst_is 0 h
  refine ⟨rst_len h, ?_⟩
  rw [k3, List.length_drop]
  by_cases z : k < L.length
  · right
    rw [show L.length - (L.length - k) = k by omega]
    exact Nat.le_zero.mp (k5 z)
  · left; omega
