/-! what a page that was read keeps -/
section
variable {T : Nat → Nat} {st p ty : Nat}
theorem oF_0 {W : List PV} (h : ∀ v, v ∈ W → v.2 = []) : ∀ k, k ≤ W.length → oF W k = 0 := by
  intro k
  induction k with
  | zero => intro _; rfl
  | succ k ih =>
    intro hk
    show oF W k + (pvd W k).2.length = 0
    rw [ih (by omega), h _ (pvd_mem (by omega))]
    rfl
theorem ptxF_by (hT : ∀ i, T i < 256) : ∀ d acc p P q, ptxF T st d acc p = .ok (P, q) → oF P P.length + p ≤ oF acc acc.length + q := by
  intro d
  induction d with
  | zero => intro acc p P q h; simp only [ptxF, Except.ok.injEq, Prod.mk.injEq] at h; rw [← h.1, ← h.2]; exact Nat.le_refl _
  | succ d ih =>
    intro acc p P q h
    simp only [ptxF] at h
    split at h
    · cases h
    · rename_i m q1 e
      have f := vrd_ok hT e
      split at h
      · cases h
      split at h
      · cases h
      split at h
      · cases h
      have := ih _ _ _ _ h
      rw [List.length_append, show [((0 : Int64), txs T q1 m)].length = 1 from rfl, oF_a2, txs_len] at this
      omega
theorem dcR_w {n q : Nat} {P W : List PV} (hty : ty = 1 ∨ ty = 2 ∨ ty = 3) (hT : ∀ i, T i < 256) (h : dcR T ty n st p = .ok ((P, W), q)) (hp : p ≤ st) : oF W W.length + p ≤ q := by
  obtain ⟨-, a2, -, -, a5, a6⟩ := dcR_pv hty hT h hp
  by_cases c : ty = 3
  · unfold dcR at h
    split at h
    · cases h
    · rename_i d q0 e
      have f := vrd_ok hT e
      split at h
      · cases h
      split at h
      · cases h
      · rename_i W' q1 e1
        have := ptxF_by hT _ _ _ _ _ e1
        rw [show oF ([] : List PV) ([] : List PV).length = 0 from rfl] at this
        split at h
        · cases h
        split at h
        · cases h
        split at h
        · cases h
        · rename_i N q2 e2
          have r := rns_ok hT e2 (by omega)
          split at h
          · cases h
          split at h
          · cases h
          · simp only [Except.ok.injEq, Prod.mk.injEq] at h
            rw [← h.1.2, ← h.2]
            omega
  · rw [oF_0 (fun v hv => (a2 v hv).2.1 c) _ (Nat.le_refl _)]
    omega
theorem vlR_w {how n q : Nat} {P W : List PV} (hty : ty < 4) (hT : ∀ i, T i < 256) (h : vlR T ty how n st p = .ok ((P, W), q)) (hp : p ≤ st) : W.length ≤ n ∧ oF W W.length + p ≤ q ∧ ((ty = 0 ∨ how ≠ nCod ty - 1) → how < nCod ty → W = []) := by
  have pq := (vlR_pv hty hT h hp).2.2.2.2.1
  have nw : ∀ {r : Rd (List PV)}, noW r = .ok ((P, W), q) → W = [] := fun {r} z => by
    cases r with
    | error e => exact absurd z (by simp [noW])
    | ok w =>
      obtain ⟨a, b⟩ := w
      simp only [noW, Except.ok.injEq, Prod.mk.injEq] at z
      exact z.1.2.symm
  have em : W = [] → W.length ≤ n ∧ oF W W.length + p ≤ q ∧ ((ty = 0 ∨ how ≠ nCod ty - 1) → how < nCod ty → W = []) := fun e => by
    refine ⟨by rw [e]; exact Nat.zero_le _, ?_, fun _ _ => e⟩
    rw [e]
    show 0 + p ≤ q
    omega
  have dc : ty ≠ 0 → (how = nCod ty - 1 ∨ nCod ty ≤ how) → dcR T ty n st p = .ok ((P, W), q) → W.length ≤ n ∧ oF W W.length + p ≤ q ∧ ((ty = 0 ∨ how ≠ nCod ty - 1) → how < nCod ty → W = []) := fun h0 hh z => by
    obtain ⟨-, -, -, b4, -, -⟩ := dcR_pv (by omega) hT z hp
    exact ⟨b4, dcR_w (by omega) hT z hp, fun w1 w2 => by omega⟩
  unfold vlR at h
  by_cases c0 : ty = 0
  · rw [if_pos c0] at h; exact em (nw h)
  rw [if_neg c0] at h
  by_cases c3 : ty = 3
  · rw [if_pos c3] at h
    have n4 : nCod ty = 4 := by rw [c3]; rfl
    by_cases d0 : how = 0
    · rw [if_pos d0] at h; exact em (nw h)
    rw [if_neg d0] at h
    by_cases d1 : how = 1
    · rw [if_pos d1] at h; exact em (nw h)
    rw [if_neg d1] at h
    by_cases d2 : how = 2
    · rw [if_pos d2] at h; exact em (nw h)
    rw [if_neg d2] at h
    exact dc c0 (by omega) (by rw [c3]; exact h)
  · rw [if_neg c3] at h
    have n3 : nCod ty = 3 := by unfold nCod; rw [if_neg c0, if_neg c3]
    by_cases d0 : how = 0
    · rw [if_pos d0] at h; exact em (nw h)
    rw [if_neg d0] at h
    by_cases d1 : how = 1
    · rw [if_pos d1] at h; exact em (nw h)
    rw [if_neg d1] at h
    exact dc c0 (by omega) h
theorem lvR_pos {most m q : Nat} {L : List Nat} (hT : ∀ i, T i < 256) (h : lvR T most m st p = .ok (L, q)) (hp : p ≤ st) : p ≤ q ∧ (0 < most → 0 < m → p + 2 ≤ q) := by
  unfold lvR at h
  split at h
  · rename_i c
    simp only [Except.ok.injEq, Prod.mk.injEq] at h
    rw [← h.2]
    exact ⟨Nat.le_refl _, fun z => by omega⟩
  · split at h
    · cases h
    · rename_i z q1 e
      have f := vrd_ok hT e
      split at h
      · cases h
      split at h
      · cases h
      · rename_i L' q2 e2
        have r := rns_ok hT e2 (by omega)
        split at h
        · cases h
        split at h
        · cases h
        simp only [Except.ok.injEq, Prod.mk.injEq] at h
        rw [← h.2]
        refine ⟨by omega, fun _ hm => ?_⟩
        unfold rns at e2
        obtain ⟨k, rfl⟩ : ∃ k, m = k + 1 := ⟨m - 1, by omega⟩
        simp only [rnF] at e2
        rw [if_neg (by simp)] at e2
        split at e2
        · cases e2
        · rename_i hh q3 e3
          have := vrd_ok hT e3
          omega
theorem tld_pv {v : PV} {q : Nat} (hT : ∀ i, T i < 256) (h : tld T ty st p = .ok (v, q)) : okPv ty v := by
  have t := tld_ok hT h
  refine ⟨fun c => ⟨t.2.2.1 c, t.2.2.2.2 c⟩, t.2.2.2.1, fun c => ?_⟩
  unfold tld at h
  rw [if_pos c] at h
  split at h
  · cases h
  · rename_i u q1 e
    split at h
    · cases h
    simp only [Except.ok.injEq, Prod.mk.injEq] at h
    rw [← h.1]
    have hu : u = 0 ∨ u = 1 := by omega
    rcases hu with z | z <;> rw [z]
    · exact Or.inl rfl
    · exact Or.inr rfl
theorem lhR_ok {no n q : Nat} {lh : PV × PV} (hT : ∀ i, T i < 256) (hp : p ≤ st) (h : lhR T ty no n st p = .ok (lh, q)) : p ≤ q ∧ q ≤ st ∧ (no < n → p + 2 ≤ q ∧ okPv ty lh.1 ∧ okPv ty lh.2) := by
  unfold lhR at h
  split at h
  · split at h
    · cases h
    · rename_i lo q1 e1
      have t1 := tld_ok hT e1
      have u1 := tld_pv hT e1
      split at h
      · cases h
      · rename_i hi q2 e2
        have t2 := tld_ok hT e2
        have u2 := tld_pv hT e2
        simp only [Except.ok.injEq, Prod.mk.injEq] at h
        rw [← h.2, ← h.1]
        exact ⟨by omega, by omega, fun _ => ⟨by omega, u1, u2⟩⟩
  · simp only [Except.ok.injEq, Prod.mk.injEq] at h
    rw [← h.2]
    exact ⟨by omega, by omega, fun z => by omega⟩
/-- a page has ten bytes at least -/
theorem pgR_ok {mr md how q : Nat} {R D : List Nat} {P W : List PV} (hty : ty < 4) (hT : ∀ i, T i < 256) (h : pgR T ty mr md st p = .ok ((how, R, D, P, W), q)) :
    p + 10 ≤ q ∧ q ≤ st ∧ 0 < D.length ∧ D.length ≤ 1000 ∧ R.length = D.length ∧ (∀ r, r ∈ R → r ≤ mr) ∧ (∀ d, d ∈ D → d ≤ md) ∧ hvN md D = P.length ∧ (∀ v, v ∈ P → okPv ty v) ∧ (∀ v, v ∈ W → okPv ty v) ∧ how < nCod ty ∧ W.length ≤ P.length ∧ oF W W.length + p ≤ q ∧ ((ty = 0 ∨ how ≠ nCod ty - 1) → W = []) := by
  unfold pgR at h
  split at h
  · cases h
  rename_i n q1 e1
  have v1 := vrd_ok hT e1
  split at h
  · cases h
  rename_i c1
  split at h
  · cases h
  rename_i c2
  unfold pgR1 at h
  split at h
  · cases h
  rename_i no q2 e2
  have v2 := vrd_ok hT e2
  split at h
  · cases h
  rename_i c3
  split at h
  · cases h
  rename_i hw q3 e3
  have v3 := fxd_ok hT e3
  split at h
  · cases h
  rename_i c4
  unfold pgR2 at h
  split at h
  · cases h
  rename_i lh q4 e4
  have v4 := lhR_ok hT (by omega) e4
  unfold pgR3 at h
  split at h
  · cases h
  rename_i sz q5 e5
  have v5 := vrd_ok hT e5
  split at h
  · cases h
  rename_i sum q6 e6
  have v6 := fxd_ok hT e6
  split at h
  · cases h
  rename_i c5
  split at h
  · cases h
  split at h
  · cases h
  rename_i d q7 e7
  obtain ⟨R', D', P', W'⟩ := d
  simp only [Except.ok.injEq, Prod.mk.injEq] at h
  obtain ⟨⟨h1, h2, h3, h4, h5⟩, h6⟩ := h
  subst h1
  subst h2
  subst h3
  subst h4
  subst h5
  unfold bdR at e7
  split at e7
  · cases e7
  rename_i R q8 e8
  have w1 := lvR_ok hT e8 (by omega)
  have w1' := lvR_pos hT e8 (by omega)
  split at e7
  · cases e7
  rename_i D q9 e9
  have w2 := lvR_ok hT e9 w1.2.2
  have w2' := lvR_pos hT e9 w1.2.2
  split at e7
  · cases e7
  rename_i c6
  split at e7
  · cases e7
  rename_i PW q10 e10
  obtain ⟨P, W⟩ := PW
  have w3 := vlR_pv hty hT e10 w2.2.2
  have w4 := vlR_w hty hT e10 w2.2.2
  split at e7
  · cases e7
  split at e7
  · cases e7
  split at e7
  · cases e7
  simp only [Except.ok.injEq, Prod.mk.injEq] at e7
  obtain ⟨⟨g1, g2, g3, g4⟩, g5⟩ := e7
  subst g1
  subst g2
  subst g3
  subst g4
  have hv : hvN md D = n - no := by omega
  have lp : 2 ≤ (q4 - q3) + (q9 - q8) := by
    by_cases cn : no < n
    · have := (v4.2.2 cn).1
      omega
    · have mp : 0 < md := by
        rcases Nat.eq_zero_or_pos md with z | z
        · exfalso
          have all : hvN md D = D.length := by
            unfold hvN
            rw [List.filter_eq_self.mpr (fun d hd => decide_eq_true (by have := w2.2.1 d hd; omega))]
          omega
        · exact z
      have := w2'.2 mp (by omega)
      omega
  refine ⟨by omega, by omega, by omega, by omega, by omega, w1.2.1, w2.2.1, by omega, w3.1, w3.2.1, by omega, by omega, by omega, fun z => w4.2.2 z (by omega)⟩
end
