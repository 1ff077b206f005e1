/-! the words of a page hold its values -/
theorem dtx_sub {W : List PV} : ∀ {N : List Nat} {acc P : List PV}, dtx W N acc = .ok P → (∀ v, v ∈ acc → v ∈ W) → ∀ v, v ∈ P → v ∈ W := by
  intro N
  induction N with
  | nil =>
    intro acc P h ha
    injection h with h
    rw [← h]
    exact ha
  | cons n N ih =>
    intro acc P h ha
    have h : (if W.length ≤ n then (Except.error 7 : Except Nat (List PV)) else if 20000 < oF acc acc.length + (pvd W n).2.length then .error 7 else dtx W N (acc ++ [pvd W n])) = .ok P := h
    by_cases c : W.length ≤ n
    · rw [if_pos c] at h; exact nomatch h
    · rw [if_neg c] at h
      split at h
      · exact nomatch h
      · refine ih h (fun v hv => ?_)
        rcases List.mem_append.mp hv with z | z
        · exact ha v z
        · rw [List.mem_singleton.mp z]
          exact pvd_mem (by omega)
section
variable {T : Nat → Nat} {F : List SFd}
theorem dcR_sub {ty n st p q : Nat} {P W : List PV} (h : dcR T ty n st p = .ok ((P, W), q)) : ∀ v, v ∈ P → v ∈ W := by
  unfold dcR at h
  split at h
  · exact nomatch h
  · split at h
    · exact nomatch h
    · split at h
      · exact nomatch h
      · split at h
        · exact nomatch h
        · split at h
          · exact nomatch h
          · split at h
            · exact nomatch h
            · split at h
              · exact nomatch h
              · split at h
                · exact nomatch h
                · rename_i e
                  injection h with h
                  injection h with h1 h2
                  injection h1 with h3 h4
                  subst h4 h3
                  exact dtx_sub e (fun v hv => absurd hv List.not_mem_nil)
theorem noW_em {r : Rd (List PV)} {P W : List PV} {q : Nat} (h : noW r = .ok ((P, W), q)) : W = [] := by
  cases r with
  | error e => exact nomatch h
  | ok v =>
    have h : (Except.ok ((v.1, ([] : List PV)), v.2) : Rd (List PV × List PV)) = .ok ((P, W), q) := h
    injection h with h
    injection h with h1 h2
    injection h1 with h3 h4
    exact h4.symm
theorem vlR_sub {ty how n st p q : Nat} {P W : List PV} (h : vlR T ty how n st p = .ok ((P, W), q)) (hW : W ≠ []) : ∀ v, v ∈ P → v ∈ W := by
  unfold vlR at h
  split at h
  · exact absurd (noW_em h) hW
  · split at h
    · split at h
      · exact absurd (noW_em h) hW
      · split at h
        · exact absurd (noW_em h) hW
        · split at h
          · exact absurd (noW_em h) hW
          · exact dcR_sub h
    · split at h
      · exact absurd (noW_em h) hW
      · split at h
        · exact absurd (noW_em h) hW
        · exact dcR_sub h
theorem bdR_sub {ty mr md n som how st p q : Nat} {lo hi : PV} {R D : List Nat} {P W : List PV} (h : bdR T ty mr md n som how lo hi st p = .ok ((R, D, P, W), q)) (hW : W ≠ []) : ∀ v, v ∈ P → v ∈ W := by
  unfold bdR at h
  split at h
  · exact nomatch h
  · split at h
    · exact nomatch h
    · split at h
      · exact nomatch h
      · split at h
        · exact nomatch h
        · rename_i PW q2 e
          split at h
          · exact nomatch h
          · split at h
            · exact nomatch h
            · split at h
              · exact nomatch h
              · injection h with h
                injection h with h1 h2
                injection h1 with h3 h4
                injection h4 with h5 h6
                injection h6 with h7 h8
                obtain ⟨P', W'⟩ := PW
                have h7 : P' = P := h7
                have h8 : W' = W := h8
                subst h7 h8
                exact vlR_sub e hW
theorem pgR_sub {ty mr md st p q how : Nat} {R D : List Nat} {P W : List PV} (h : pgR T ty mr md st p = .ok ((how, R, D, P, W), q)) (hW : W ≠ []) : ∀ v, v ∈ P → v ∈ W := by
  unfold pgR at h
  split at h
  · exact nomatch h
  · split at h
    · exact nomatch h
    · split at h
      · exact nomatch h
      · unfold pgR1 at h
        split at h
        · exact nomatch h
        · split at h
          · exact nomatch h
          · split at h
            · exact nomatch h
            · split at h
              · exact nomatch h
              · unfold pgR2 at h
                split at h
                · exact nomatch h
                · unfold pgR3 at h
                  split at h
                  · exact nomatch h
                  · split at h
                    · exact nomatch h
                    · split at h
                      · exact nomatch h
                      · split at h
                        · exact nomatch h
                        · split at h
                          · exact nomatch h
                          · rename_i d q9 e
                            injection h with h
                            injection h with h1 h2
                            injection h1 with h3 h4
                            subst h4
                            exact bdR_sub e hW
/-- a page's words -/
def WdP (F : List SFd) (c : Nat) (g : PgW) : Prop := (g.2 ≠ [] → ∀ v, v ∈ vlE (mdC F c) g.1 → v ∈ g.2) ∧ (∀ v, v ∈ g.2 → okPv (tyC F c) v) ∧ g.2.length ≤ 100
theorem pgO_wd {c a b st p q : Nat} {L : List SEn} {W : List PV} (hw : WfS F) (hc : c < ncol F) (hT : ∀ i, T i < 256) (h : pgO T F c a b st p = .ok ((L, W), q)) : WdP F c (L, W) := by
  obtain ⟨-, -, -, -, -, -, -, o8, o9, -⟩ := pgO_ok hw hc hT h
  refine ⟨fun hW => ?_, o8, o9⟩
  unfold pgO at h
  split at h
  · exact nomatch h
  · rename_i how R D P W' q' e
    split at h
    · exact nomatch h
    · split at h
      · exact nomatch h
      · split at h
        · exact nomatch h
        · injection h with h
          injection h with h1 h2
          injection h1 with h3 h4
          have hv := (pgR_ok (ty_lt hw hc).1 hT e).2.2.2.2.2.2.2.1
          have h4 : (if W'.length ≤ 100 then W' else []) = W := h4
          have hW : W ≠ [] := hW
          by_cases z : W'.length ≤ 100
          · rw [if_pos z] at h4
            subst h4
            have h3 : entL c (mdC F c) R D P = L := h3
            show ∀ v, v ∈ vlE (mdC F c) L → v ∈ W'
            rw [← h3, vlE_all hv]
            exact pgR_sub e hW
          · rw [if_neg z] at h4
            exact absurd h4.symm hW
theorem pgsO_wd {c st : Nat} (hw : WfS F) (hc : c < ncol F) (hT : ∀ i, T i < 256) : ∀ d X E p X' q, pgsO T F c st d X E p = .ok (X', q) → (∀ k, k < X.length → WdP F c (X.getD k ([], []))) → ∀ k, k < X'.length → WdP F c (X'.getD k ([], [])) := by
  intro d
  induction d with
  | zero =>
    intro X E p X' q h h2
    simp only [pgsO, Except.ok.injEq, Prod.mk.injEq] at h
    rw [← h.1]
    exact h2
  | succ d ih =>
    intro X E p X' q h h2
    simp only [pgsO] at h
    split at h
    · cases h
    rename_i g q1 e1
    obtain ⟨L, W⟩ := g
    refine ih _ _ _ _ _ h (fun k hk => ?_)
    rw [List.length_append] at hk
    have hk : k < X.length + 1 := hk
    by_cases e : k = X.length
    · rw [e, getD_n]
      exact pgO_wd hw hc hT e1
    · rw [getD_l (by omega)]
      exact h2 k (by omega)
def WdO (F : List SFd) (CK : List (List PgW)) : Prop := ∀ w, w < CK.length → ∀ k, k < (CK.getD w []).length → WdP F (w % ncol F) ((CK.getD w []).getD k ([], []))
theorem cksO_wd {K : List ChT} {G : List Nat} {g : Nat} (hw : WfS F) (hT : ∀ i, T i < 256) : ∀ d c CK A p CK' q, cksO T F K (G.getD g 0) g d c CK A p = .ok (CK', q) → c + d = ncol F → CK.length = ncol F * g + c → WdO F CK → WdO F CK' ∧ CK'.length = ncol F * (g + 1) := by
  intro d
  induction d with
  | zero =>
    intro c CK A p CK' q h h1 h2 h4
    simp only [cksO, Except.ok.injEq, Prod.mk.injEq] at h
    rw [← h.1]
    exact ⟨h4, by rw [h2, Nat.mul_succ]; omega⟩
  | succ d ih =>
    intro c CK A p CK' q h h1 h2 h4
    have hc : c < ncol F := by omega
    simp only [cksO] at h
    split at h
    · cases h
    rename_i X q1 e1
    unfold ckO at e1
    split at e1
    · cases e1
    rename_i X0 q0 e2
    split at e1
    · cases e1
    split at e1
    · cases e1
    simp only [Except.ok.injEq, Prod.mk.injEq] at e1
    obtain ⟨rfl, rfl⟩ := e1
    have hN : 0 < ncol F := by omega
    have em2 : (ncol F * g + c) % ncol F = c := by rw [Nat.mul_add_mod, Nat.mod_eq_of_lt hc]
    refine ih (c + 1) _ _ _ _ _ h (by omega) (by rw [List.length_append, h2]; rfl) (fun w hw' => ?_)
    rw [List.length_append] at hw'
    have hw' : w < CK.length + 1 := hw'
    by_cases e : w = CK.length
    · rw [e, getD_n, h2, em2]
      exact pgsO_wd hw hc hT _ _ _ _ _ _ e2 (fun k hk => absurd hk (Nat.not_lt_zero _))
    · rw [getD_l (by omega)]
      exact h4 w (by omega)
theorem grpO_wd {K : List ChT} {G : List Nat} (hw : WfS F) (hT : ∀ i, T i < 256) : ∀ d g CK p CK' q, grpO T F G K d g CK p = .ok (CK', q) → CK.length = ncol F * g → WdO F CK → WdO F CK' := by
  intro d
  induction d with
  | zero =>
    intro g CK p CK' q h h2 h3
    simp only [grpO, Except.ok.injEq, Prod.mk.injEq] at h
    rw [← h.1]
    exact h3
  | succ d ih =>
    intro g CK p CK' q h h2 h3
    simp only [grpO] at h
    split at h
    · cases h
    rename_i CK1 q1 e1
    obtain ⟨a, b⟩ := cksO_wd hw hT _ _ _ _ _ _ _ e1 (Nat.zero_add _) h2 h3
    exact ih _ _ _ _ _ h b a
end
theorem opO_wd {T : Nat → Nat} {n : Nat} {F : List SFd} {rows : Nat} {G : List Nat} {K : List ChT} {CK : List (List PgW)} (hT : ∀ i, T i < 256) (hw : WfS F) (h : opO T n = .ok (F, rows, G, K, CK)) : WdO F CK := by
  unfold opO at h
  split at h
  · cases h
  rename_i F' rows' G' K' e1
  split at h
  · cases h
  rename_i CK' q e2
  simp only [Except.ok.injEq, Prod.mk.injEq] at h
  obtain ⟨rfl, rfl, rfl, rfl, rfl⟩ := h
  exact grpO_wd hw hT _ _ _ _ _ _ e2 rfl (fun w hw => absurd hw (Nat.not_lt_zero _))
