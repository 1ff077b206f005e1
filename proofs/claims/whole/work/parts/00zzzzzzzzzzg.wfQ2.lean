/-! a query that was read well is well formed -/
def itF (F : List SFd) (i : QIt) : Prop := (i.1 = 0 ∧ ∃ f, f < F.length ∧ i.2.1 = nI f) ∨ (i.1 = 1 ∧ i.2.1 = -1) ∨ (2 ≤ i.1 ∧ i.1 ≤ 5 ∧ ∃ f, colF F f ∧ i.2.1 = nI f ∧ (i.1 = 3 → whl (fTy F f)))
def QyW (F : List SFd) (Q : Qy) : Prop := Q.1 ≠ [] ∧ (∀ i, i ∈ Q.1 → itF F i) ∧ (∀ b, b ∈ Q.2.1 → colF F b) ∧ (∀ s, s ∈ Q.2.2.1 → stW F Q.2.2.2 s) ∧ (Q.2.2.1 = [] ∨ hgt Q.2.2.1 0 = some 1) ∧ (cll Q = true → ∀ i, i ∈ Q.1 → i.1 = 0 → byB Q.2.1 i.2.1 = true)
theorem qCk_no {B : List Nat} : ∀ {L : List QIt}, (∀ j, j ∈ L → j.2.2 < 2 ^ 31) → qCk B L = -1 → ∀ i, i ∈ L → i.1 = 0 → byB B i.2.1 = true := by
  intro L
  induction L with
  | nil => intro _ _ i hi; exact absurd hi List.not_mem_nil
  | cons j L ih =>
    intro hp h i hi h0
    have h : (if j.1 = 0 ∧ byB B j.2.1 = false then nI j.2.2 else qCk B L) = -1 := h
    by_cases c : j.1 = 0 ∧ byB B j.2.1 = false
    · rw [if_pos c] at h
      exact absurd h (nI_nm1 (hp j (List.mem_cons_self ..)))
    · rw [if_neg c] at h
      rcases List.mem_cons.mp hi with e | e
      · rw [e] at h0 ⊢
        cases z : byB B j.2.1 with
        | true => rfl
        | false => exact absurd ⟨h0, z⟩ c
      · exact ih (fun k hk => hp k (List.mem_cons_of_mem _ hk)) h i e h0
theorem qry_w {T : Nat → Int32} {n : Nat} {F : List SFd} (hw : WfS F) (hn : n < 2 ^ 31) (h : (qry T n F).1 = -1) : QyW F (qry T n F).2.2 := by
  rw [qry_eq] at h ⊢
  obtain ⟨h1, e1⟩ := qBd_q h
  obtain ⟨h2, e2⟩ := qBd_q h1
  obtain ⟨h3, e3⟩ := qBd_q h2
  obtain ⟨h4, e4⟩ := qBd_q h3
  obtain ⟨-, e5, w5⟩ := qWrd_q h4 hn (Nat.zero_le n)
  have w5 : isWd T n (skip T n 0) [115, 101, 108, 101, 99, 116] := w5
  have k0 := isWd_le (skip_le (Nat.zero_le n)) w5
  rw [e4] at h3
  rw [e5] at h3
  obtain ⟨k1, LI, e6, n6, w6, -, k1n⟩ := qIts_w hw hn 17 _ ([], [], [], []) (show skip T n 0 + 6 ≤ n from k0) h3
  have e4 : qBd (qWrd T n [115, 101, 108, 101, 99, 116] (-1, 0, ([], [], [], []))) (qIts T n F 17) = (-1, k1, (LI, [], [], [])) := by
    rw [e4, e5]
    exact e6
  rw [e3, e4] at h2
  obtain ⟨k2, E, L, e7, w7, x7, -, k2n⟩ := qWh_i hw hn (show k1 ≤ n from k1n) h2
  have e3 : qBd (qBd (qWrd T n [115, 101, 108, 101, 99, 116] (-1, 0, ([], [], [], []))) (qIts T n F 17)) (qWh T n F) = (-1, k2, (LI, [], E, L)) := by
    rw [e3, e4]
    exact e7
  rw [e2, e3] at h1
  obtain ⟨k3, LB, e8, w8, -, k3n⟩ := qGr_i hw hn (show k2 ≤ n from k2n) h1
  have e2 : qBd (qBd (qBd (qWrd T n [115, 101, 108, 101, 99, 116] (-1, 0, ([], [], [], []))) (qIts T n F 17)) (qWh T n F)) (qGr T n F) = (-1, k3, (LI, LB, E, L)) := by
    rw [e2, e3]
    exact e8
  rw [e1, e2] at h ⊢
  have h : (qEnd T n k3 (LI, LB, E, L)).1 = -1 := h
  show QyW F (qEnd T n k3 (LI, LB, E, L)).2.2
  have hp : ∀ j, j ∈ LI → j.2.2 < 2 ^ 31 := fun j hj => by have := (w6 j hj).1; omega
  have ok : (cll (LI, LB, E, L) = true → ∀ i, i ∈ LI → i.1 = 0 → byB LB i.2.1 = true) → QyW F (LI, LB, E, L) := by
    intro hc
    refine ⟨n6, fun i hi => (w6 i hi).2, w8, w7, ?_, hc⟩
    rcases x7 with x | x
    · exact Or.inl x
    · right
      have := x [] 0
      rw [List.append_nil] at this
      exact this
  unfold qEnd at h ⊢
  by_cases c1 : skip T n k3 < n
  · rw [if_pos c1] at h
    exact absurd h (nI_nm1 (by omega))
  · rw [if_neg c1] at h ⊢
    by_cases c2 : cll (LI, LB, E, L) = true ∧ ¬ qCk LB LI = -1
    · rw [if_pos c2] at h
      exact absurd h c2.2
    · rw [if_neg c2]
      exact ok (fun hc => qCk_no hp (Decidable.byContradiction (fun z => c2 ⟨hc, z⟩)))
