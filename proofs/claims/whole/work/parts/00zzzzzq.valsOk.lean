/-! values that were read are values of their type -/
def okPv (ty : Nat) (v : PV) : Prop := (ty = 3 → okT v.2 ∧ v.1 = 0) ∧ (ty ≠ 3 → v.2 = []) ∧ (ty = 0 → v.1 = 0 ∨ v.1 = 1)
section
variable {T : Nat → Nat} {st : Nat}
theorem mem_snoc {P : List PV} {a v : PV} (h : v ∈ P ++ [a]) : v ∈ P ∨ v = a := by
  rcases List.mem_append.mp h with z | z
  · exact Or.inl z
  · exact Or.inr (List.mem_singleton.mp z)
theorem ptxF_pv (hT : ∀ i, T i < 256) : ∀ d acc p P q, ptxF T st d acc p = .ok (P, q) → (∀ v, v ∈ acc → okPv 3 v) → p ≤ st → (∀ v, v ∈ P → okPv 3 v) ∧ P.length = acc.length + d ∧ q ≤ st ∧ p + d ≤ q := by
  intro d
  induction d with
  | zero => intro acc p P q h ha hp; simp only [ptxF, Except.ok.injEq, Prod.mk.injEq] at h; rw [← h.1, ← h.2]; exact ⟨ha, rfl, hp, Nat.le_refl _⟩
  | succ d ih =>
    intro acc p P q h ha hp
    simp only [ptxF] at h
    cases e : vrd T st p with
    | error e' => rw [e] at h; exact absurd h (by simp)
    | ok w =>
      obtain ⟨m, q1⟩ := w
      have f := vrd_ok hT e
      rw [e] at h
      simp only at h
      by_cases c1 : 255 < m
      · rw [if_pos c1] at h; exact absurd h (by simp)
      rw [if_neg c1] at h
      by_cases c2 : st < q1 + m
      · rw [if_pos c2] at h; exact absurd h (by simp)
      rw [if_neg c2] at h
      by_cases c3 : 20000 < oF acc acc.length + m
      · rw [if_pos c3] at h; exact absurd h (by simp)
      rw [if_neg c3] at h
      obtain ⟨a, b, c, d'⟩ := ih _ _ _ _ h (fun v hv => (mem_snoc hv).elim (ha v) (fun z => by rw [z]; exact ⟨fun _ => ⟨txs_ok hT (by omega), rfl⟩, fun z => absurd rfl z, fun z => absurd z (by decide)⟩)) (by omega)
      rw [List.length_append] at b
      have e1 : [((0 : Int64), txs T q1 m)].length = 1 := rfl
      exact ⟨a, by omega, c, by omega⟩
theorem wplF_pv {ty : Nat} (hty : ty = 1 ∨ ty = 2) (hT : ∀ i, T i < 256) : ∀ d acc p P q, wplF T ty st d acc p = .ok (P, q) → (∀ v, v ∈ acc → okPv ty v) → p ≤ st → (∀ v, v ∈ P → okPv ty v) ∧ P.length = acc.length + d ∧ q ≤ st ∧ p + d ≤ q := by
  intro d
  induction d with
  | zero => intro acc p P q h ha hp; simp only [wplF, Except.ok.injEq, Prod.mk.injEq] at h; rw [← h.1, ← h.2]; exact ⟨ha, rfl, hp, Nat.le_refl _⟩
  | succ d ih =>
    intro acc p P q h ha hp
    simp only [wplF] at h
    cases e : fxd T (wid ty) st p with
    | error e' => rw [e] at h; exact absurd h (by simp)
    | ok w =>
      obtain ⟨m, q1⟩ := w
      have f := fxd_ok hT e
      have hw : 1 ≤ wid ty := by unfold wid; split <;> decide
      rw [e] at h
      simp only at h
      obtain ⟨a, b, c, d'⟩ := ih _ _ _ _ h (fun v hv => (mem_snoc hv).elim (ha v) (fun z => by rw [z]; exact ⟨fun z => by omega, fun _ => rfl, fun z => by omega⟩)) (by omega)
      rw [List.length_append] at b
      have e1 : [((whV ty m : Int64), ([] : List Int32))].length = 1 := rfl
      exact ⟨a, by omega, c, by omega⟩
theorem ltxF_pv (hT : ∀ i, T i < 256) {L : List Int64} : ∀ d acc p P q, ltxF T st L d acc p = .ok (P, q) → (∀ k, k < acc.length + d → uL (L.getD k 0) ≤ 255) → (∀ v, v ∈ acc → okPv 3 v) → p ≤ st → (∀ v, v ∈ P → okPv 3 v) ∧ P.length = acc.length + d ∧ q ≤ st ∧ p ≤ q := by
  intro d
  induction d with
  | zero => intro acc p P q h _ ha hp; simp only [ltxF, Except.ok.injEq, Prod.mk.injEq] at h; rw [← h.1, ← h.2]; exact ⟨ha, rfl, hp, Nat.le_refl _⟩
  | succ d ih =>
    intro acc p P q h hl ha hp
    simp only [ltxF] at h
    by_cases c2 : st < p + uL (L.getD acc.length 0)
    · rw [if_pos c2] at h; exact absurd h (by simp)
    rw [if_neg c2] at h
    by_cases c3 : 20000 < oF acc acc.length + uL (L.getD acc.length 0)
    · rw [if_pos c3] at h; exact absurd h (by simp)
    rw [if_neg c3] at h
    have e1 : (acc ++ [((0 : Int64), txs T p (uL (L.getD acc.length 0)))]).length = acc.length + 1 := by rw [List.length_append]; rfl
    obtain ⟨a, b, c, d'⟩ := ih _ _ _ _ h (fun k hk => hl k (by omega)) (fun v hv => (mem_snoc hv).elim (ha v) (fun z => by rw [z]; exact ⟨fun _ => ⟨txs_ok hT (hl _ (by omega)), rfl⟩, fun z => absurd rfl z, fun z => absurd z (by decide)⟩)) (by omega)
    exact ⟨a, by omega, c, by omega⟩
theorem okT_app {a b : List Int32} (ha : okT a) (hb : okT b) (hl : a.length + b.length ≤ 255) : okT (a ++ b) := by
  refine ⟨by rw [List.length_append]; exact hl, fun j hj => ?_⟩
  rw [List.length_append] at hj
  rw [List.getD_eq_getElem?_getD]
  by_cases c : j < a.length
  · rw [List.getElem?_append_left c, ← List.getD_eq_getElem?_getD]; exact ha.2 j c
  · rw [List.getElem?_append_right (by omega), ← List.getD_eq_getElem?_getD]; exact hb.2 _ (by omega)
theorem okT_take {a : List Int32} (ha : okT a) (n : Nat) : okT (a.take n) := by
  refine ⟨by rw [List.length_take]; have := ha.1; omega, fun j hj => ?_⟩
  rw [List.length_take] at hj
  rw [List.getD_eq_getElem?_getD, List.getElem?_take, if_pos (by omega), ← List.getD_eq_getElem?_getD]
  exact ha.2 j (by omega)
theorem ftxF_pv (hT : ∀ i, T i < 256) {C M : List Int64} : ∀ d acc p P q, ftxF T st C M d acc p = .ok (P, q) → (∀ v, v ∈ acc → okPv 3 v) → p ≤ st → (∀ v, v ∈ P → okPv 3 v) ∧ P.length = acc.length + d ∧ q ≤ st ∧ p ≤ q := by
  intro d
  induction d with
  | zero => intro acc p P q h ha hp; simp only [ftxF, Except.ok.injEq, Prod.mk.injEq] at h; rw [← h.1, ← h.2]; exact ⟨ha, rfl, hp, Nat.le_refl _⟩
  | succ d ih =>
    intro acc p P q h ha hp
    simp only [ftxF] at h
    by_cases c1 : (pvd acc (acc.length - 1)).2.length < uL (C.getD acc.length 0) ∨ 255 < uL (C.getD acc.length 0) + uL (M.getD acc.length 0)
    · rw [if_pos c1] at h; exact absurd h (by simp)
    rw [if_neg c1] at h
    by_cases c2 : st < p + uL (M.getD acc.length 0)
    · rw [if_pos c2] at h; exact absurd h (by simp)
    rw [if_neg c2] at h
    by_cases c3 : 20000 < oF acc acc.length + uL (C.getD acc.length 0) + uL (M.getD acc.length 0)
    · rw [if_pos c3] at h; exact absurd h (by simp)
    rw [if_neg c3] at h
    have okl : okT (pvd acc (acc.length - 1)).2 := by
      by_cases c0 : acc.length = 0
      · have : acc = [] := List.length_eq_zero_iff.mp c0
        rw [this]; exact okT_nil
      · have hm : pvd acc (acc.length - 1) ∈ acc := by
          unfold pvd
          rw [List.getD_eq_getElem?_getD, List.getElem?_eq_getElem (by omega)]
          exact List.getElem_mem _
        exact ((ha _ hm).1 rfl).1
    have ok2 : okT ((pvd acc (acc.length - 1)).2.take (uL (C.getD acc.length 0)) ++ txs T p (uL (M.getD acc.length 0))) := okT_app (okT_take okl _) (txs_ok hT (by omega)) (by rw [List.length_take, txs_len]; omega)
    have e1 : (acc ++ [((0 : Int64), (pvd acc (acc.length - 1)).2.take (uL (C.getD acc.length 0)) ++ txs T p (uL (M.getD acc.length 0)))]).length = acc.length + 1 := by rw [List.length_append]; rfl
    obtain ⟨a, b, c, d'⟩ := ih _ _ _ _ h (fun v hv => (mem_snoc hv).elim (ha v) (fun z => by rw [z]; exact ⟨fun _ => ⟨ok2, rfl⟩, fun z => absurd rfl z, fun z => absurd z (by decide)⟩)) (by omega)
    exact ⟨a, by omega, c, by omega⟩
theorem dtx_pv {ty : Nat} {W : List PV} (hW : ∀ v, v ∈ W → okPv ty v) : ∀ N acc P, dtx W N acc = .ok P → (∀ v, v ∈ acc → okPv ty v) → ∀ v, v ∈ P → okPv ty v := by
  intro N
  induction N with
  | nil => intro acc P h ha; simp only [dtx, Except.ok.injEq] at h; rw [← h]; exact ha
  | cons u N ih =>
    intro acc P h ha
    simp only [dtx] at h
    by_cases c1 : W.length ≤ u
    · rw [if_pos c1] at h; exact absurd h (by simp)
    rw [if_neg c1] at h
    by_cases c2 : 20000 < oF acc acc.length + (pvd W u).2.length
    · rw [if_pos c2] at h; exact absurd h (by simp)
    rw [if_neg c2] at h
    refine ih _ _ h (fun v hv => (mem_snoc hv).elim (ha v) (fun z => ?_))
    rw [z]
    refine hW _ ?_
    unfold pvd
    rw [List.getD_eq_getElem?_getD, List.getElem?_eq_getElem (by omega)]
    exact List.getElem_mem _
theorem dcR_pv {ty n p q : Nat} {P W : List PV} (hty : ty = 1 ∨ ty = 2 ∨ ty = 3) (hT : ∀ i, T i < 256) (h : dcR T ty n st p = .ok ((P, W), q)) (hp : p ≤ st) : (∀ v, v ∈ P → okPv ty v) ∧ (∀ v, v ∈ W → okPv ty v) ∧ P.length = n ∧ W.length ≤ n ∧ q = st ∧ p + W.length + 2 ≤ q := by
  unfold dcR at h
  cases e : vrd T st p with
  | error e' => rw [e] at h; exact absurd h (by simp)
  | ok w =>
    obtain ⟨d, q0⟩ := w
    have f := vrd_ok hT e
    rw [e] at h
    simp only at h
    by_cases c1 : n < d
    · rw [if_pos c1] at h; exact absurd h (by simp)
    rw [if_neg c1] at h
    have core : ∀ (W' : List PV) q1, (∀ v, v ∈ W' → okPv ty v) → W'.length = d → q1 ≤ st → q0 + d ≤ q1 → ((if st ≤ q1 then .error 1 else if 32 < T q1 then .error 5 else match rns T n (T q1) st (q1 + 1) with
        | .error e => .error e
        | .ok (N, q2) => if q2 < st then .error 6 else match dtx W' N [] with
          | .error e => .error e
          | .ok P => .ok ((P, W'), q2)) : Rd (List PV × List PV)) = .ok ((P, W), q) → (∀ v, v ∈ P → okPv ty v) ∧ (∀ v, v ∈ W → okPv ty v) ∧ P.length = n ∧ W.length ≤ n ∧ q = st ∧ p + W.length + 2 ≤ q := by
      intro W' q1 hW hl hq hq2 h
      by_cases c2 : st ≤ q1
      · rw [if_pos c2] at h; exact absurd h (by simp)
      rw [if_neg c2] at h
      by_cases c3 : 32 < T q1
      · rw [if_pos c3] at h; exact absurd h (by simp)
      rw [if_neg c3] at h
      cases er : rns T n (T q1) st (q1 + 1) with
      | error e' => rw [er] at h; exact absurd h (by simp)
      | ok w =>
        obtain ⟨N, q2⟩ := w
        obtain ⟨r1, r2, r3, r4⟩ := rns_ok hT er (by omega)
        rw [er] at h
        simp only at h
        by_cases c4 : q2 < st
        · rw [if_pos c4] at h; exact absurd h (by simp)
        rw [if_neg c4] at h
        cases ed : dtx W' N [] with
        | error e' => rw [ed] at h; exact absurd h (by simp)
        | ok P' =>
          rw [ed] at h
          simp only [Except.ok.injEq, Prod.mk.injEq] at h
          obtain ⟨⟨h1, h2⟩, h3⟩ := h
          rw [← h1, ← h2]
          have dl := dtx_len _ _ _ ed
          rw [List.length_nil] at dl
          exact ⟨dtx_pv hW _ _ _ ed (fun v hv => absurd hv (by simp)), hW, by omega, by omega, by omega, by omega⟩
    by_cases c3 : ty = 3
    · rw [if_pos c3] at h
      cases ew : ptxF T st d [] q0 with
      | error e' => rw [ew] at h; exact absurd h (by simp)
      | ok w =>
        obtain ⟨W', q1⟩ := w
        rw [ew] at h
        obtain ⟨a, b, c, d'⟩ := ptxF_pv hT _ _ _ _ _ ew (fun v hv => absurd hv (by simp)) f.2.2
        rw [List.length_nil] at b
        rw [c3] at core ⊢
        exact core W' q1 a (by omega) c d' h
    · rw [if_neg c3] at h
      cases ew : wplF T ty st d [] q0 with
      | error e' => rw [ew] at h; exact absurd h (by simp)
      | ok w =>
        obtain ⟨W', q1⟩ := w
        rw [ew] at h
        obtain ⟨a, b, c, d'⟩ := wplF_pv (by omega) hT _ _ _ _ _ ew (fun v hv => absurd hv (by simp)) f.2.2
        rw [List.length_nil] at b
        exact core W' q1 a (by omega) c d' h
theorem lgs_pos {n p z : Nat} {L : List Int64} (hT : ∀ i, T i < 256) (h : lgs T n st p = .ok (L, z)) : p + 1 ≤ z := by
  unfold lgs at h
  cases e : vrd T st p with
  | error e' => rw [e] at h; exact absurd h (by simp)
  | ok w =>
    obtain ⟨m, q⟩ := w
    have f := vrd_ok hT e
    have := lgs_ok (n := n) (st := st) (p := p) (L := L) (z := z) hT (by unfold lgs; rw [e] at h ⊢; exact h) (by omega)
    omega
theorem cde_pos {n p z : Nat} {L : List Int64} (hT : ∀ i, T i < 256) (h : cde T n st p = .ok (L, z)) : p + 2 ≤ z ∧ z ≤ st ∧ L.length = n := by
  unfold cde at h
  cases e : vrd T st p with
  | error e' => rw [e] at h; exact absurd h (by simp)
  | ok w =>
    obtain ⟨m, q⟩ := w
    have f := vrd_ok hT e
    rw [e] at h
    simp only at h
    by_cases c : st < q + m
    · rw [if_pos c] at h; exact absurd h (by simp)
    rw [if_neg c] at h
    have a := lgs_pos hT h
    have b := lgs_ok hT h (by omega)
    exact ⟨by omega, by omega, b.1⟩
/-- what values are, and that they have a byte at least -/
theorem vlR_pv {ty how n p q : Nat} {P W : List PV} (hty : ty < 4) (hT : ∀ i, T i < 256) (h : vlR T ty how n st p = .ok ((P, W), q)) (hp : p ≤ st) : (∀ v, v ∈ P → okPv ty v) ∧ (∀ v, v ∈ W → okPv ty v) ∧ P.length = n ∧ q ≤ st ∧ p ≤ q ∧ (0 < n → p < q) := by
  have nw : ∀ {r : Rd (List PV)}, noW r = .ok ((P, W), q) → r = .ok (P, q) ∧ W = [] := fun {r} z => by
    cases r with
    | error e => exact absurd z (by simp [noW])
    | ok w =>
      obtain ⟨a, b⟩ := w
      simp only [noW, Except.ok.injEq, Prod.mk.injEq] at z
      rw [z.1.1, z.2]
      exact ⟨rfl, z.1.2.symm⟩
  have em : ∀ v : PV, v ∈ ([] : List PV) → okPv ty v := fun v hv => absurd hv (by simp)
  unfold vlR at h
  by_cases c0 : ty = 0
  · rw [if_pos c0] at h
    by_cases c1 : how = 1
    · rw [if_pos c1] at h
      obtain ⟨a, b⟩ := nw h
      rw [b]
      unfold bl1 at a
      cases er : rns T n 1 st p with
      | error e' => rw [er] at a; exact absurd a (by simp)
      | ok w =>
        obtain ⟨L, q1⟩ := w
        obtain ⟨r1, r2, r3, r4⟩ := rns_ok hT er hp
        rw [er] at a
        simp only at a
        by_cases c2 : q1 < st
        · rw [if_pos c2] at a; exact absurd a (by simp)
        rw [if_neg c2] at a
        simp only [Except.ok.injEq, Prod.mk.injEq] at a
        rw [← a.1, ← a.2]
        refine ⟨fun v hv => ?_, em, by rw [List.length_map]; exact r1, r4, r3, fun hn => ?_⟩
        · obtain ⟨u, u1, rfl⟩ := List.mem_map.mp hv
          have := r2 u u1
          refine ⟨fun z => by omega, fun _ => rfl, fun _ => ?_⟩
          have hu : u = 0 ∨ u = 1 := by omega
          rcases hu with e | e <;> rw [e]
          · exact Or.inl rfl
          · exact Or.inr rfl
        · unfold rns at er
          obtain ⟨m, rfl⟩ : ∃ m, n = m + 1 := ⟨n - 1, by omega⟩
          simp only [rnF] at er
          rw [if_neg (by simp)] at er
          cases ev : vrd T st p with
          | error e' => rw [ev] at er; exact absurd er (by simp)
          | ok w => have := vrd_ok hT (show vrd T st p = .ok (w.1, w.2) from ev); omega
    · rw [if_neg c1] at h
      obtain ⟨a, b⟩ := nw h
      rw [b]
      unfold bl0 at a
      by_cases c2 : st < p + (n + 7) / 8
      · rw [if_pos c2] at a; exact absurd a (by simp)
      rw [if_neg c2] at a
      by_cases c3 : ∃ j, j < 8 * ((n + 7) / 8) ∧ n ≤ j ∧ btN T p j = 1
      · rw [if_pos c3] at a; exact absurd a (by simp)
      rw [if_neg c3] at a
      simp only [Except.ok.injEq, Prod.mk.injEq] at a
      rw [← a.1, ← a.2]
      refine ⟨fun v hv => ?_, em, by rw [List.length_map, List.length_range], by omega, by omega, fun hn => by omega⟩
      obtain ⟨u, u1, rfl⟩ := List.mem_map.mp hv
      have := btN_le (T := T) p u
      refine ⟨fun z => by omega, fun _ => rfl, fun _ => ?_⟩
      have hu : btN T p u = 0 ∨ btN T p u = 1 := by omega
      rcases hu with e | e
      · exact Or.inl (by show lN (btN T p u) = 0; rw [e]; rfl)
      · exact Or.inr (by show lN (btN T p u) = 1; rw [e]; rfl)
  · rw [if_neg c0] at h
    by_cases c3 : ty = 3
    · rw [if_pos c3] at h
      rw [c3] at em ⊢
      by_cases c1 : how = 0
      · rw [if_pos c1] at h
        obtain ⟨a, b⟩ := nw h
        rw [b]
        obtain ⟨x1, x2, x3, x4⟩ := ptxF_pv hT _ _ _ _ _ a (fun v hv => absurd hv (by simp)) hp
        rw [List.length_nil] at x2
        exact ⟨x1, em, by omega, x3, by omega, fun _ => by omega⟩
      · rw [if_neg c1] at h
        by_cases c2 : how = 1
        · rw [if_pos c2] at h
          obtain ⟨a, b⟩ := nw h
          rw [b]
          unfold tx1 at a
          cases ec : cde T n st p with
          | error e' => rw [ec] at a; exact absurd a (by simp)
          | ok w =>
            obtain ⟨L, q1⟩ := w
            have cp := cde_pos hT ec
            rw [ec] at a
            simp only at a
            by_cases c4 : ∃ k, k < n ∧ 255 < uL (L.getD k 0)
            · rw [if_pos c4] at a; exact absurd a (by simp)
            rw [if_neg c4] at a
            obtain ⟨x1, x2, x3, x4⟩ := ltxF_pv hT _ _ _ _ _ a (fun k hk => Nat.not_lt.mp (fun z => c4 ⟨k, by rw [List.length_nil] at hk; omega, z⟩)) (fun v hv => absurd hv (by simp)) cp.2.1
            rw [List.length_nil] at x2
            exact ⟨x1, em, by omega, x3, by omega, fun _ => by omega⟩
        · rw [if_neg c2] at h
          by_cases c4 : how = 2
          · rw [if_pos c4] at h
            obtain ⟨a, b⟩ := nw h
            rw [b]
            unfold tx2 at a
            cases ec : cde T n st p with
            | error e' => rw [ec] at a; exact absurd a (by simp)
            | ok w =>
              obtain ⟨C, q1⟩ := w
              have cp := cde_pos hT ec
              rw [ec] at a
              simp only at a
              cases ec2 : cde T n st q1 with
              | error e' => rw [ec2] at a; exact absurd a (by simp)
              | ok w =>
                obtain ⟨M, q2⟩ := w
                have cp2 := cde_pos hT ec2
                rw [ec2] at a
                simp only at a
                obtain ⟨x1, x2, x3, x4⟩ := ftxF_pv hT _ _ _ _ _ a (fun v hv => absurd hv (by simp)) cp2.2.1
                rw [List.length_nil] at x2
                exact ⟨x1, em, by omega, x3, by omega, fun _ => by omega⟩
          · rw [if_neg c4] at h
            obtain ⟨x1, x2, x3, x4, x5, x6⟩ := dcR_pv (Or.inr (Or.inr rfl)) hT h hp
            exact ⟨x1, x2, x3, by omega, by omega, fun _ => by omega⟩
    · rw [if_neg c3] at h
      by_cases c1 : how = 0
      · rw [if_pos c1] at h
        obtain ⟨a, b⟩ := nw h
        rw [b]
        obtain ⟨x1, x2, x3, x4⟩ := wplF_pv (by omega) hT _ _ _ _ _ a (fun v hv => absurd hv (by simp)) hp
        rw [List.length_nil] at x2
        exact ⟨x1, em, by omega, x3, by omega, fun _ => by omega⟩
      · rw [if_neg c1] at h
        by_cases c2 : how = 1
        · rw [if_pos c2] at h
          obtain ⟨a, b⟩ := nw h
          rw [b]
          unfold wh1 at a
          cases el : lgs T n st p with
          | error e' => rw [el] at a; exact absurd a (by simp)
          | ok w =>
            obtain ⟨L, q1⟩ := w
            have lo := lgs_ok hT el hp
            have lp := lgs_pos hT el
            rw [el] at a
            simp only at a
            by_cases c4 : ty = 1 ∧ ∃ k, k < n ∧ ¬ inI (L.getD k 0)
            · rw [if_pos c4] at a; exact absurd a (by simp)
            rw [if_neg c4] at a
            simp only [Except.ok.injEq, Prod.mk.injEq] at a
            rw [← a.1, ← a.2]
            refine ⟨fun v hv => ?_, em, by rw [List.length_map]; exact lo.1, by omega, by omega, fun _ => by omega⟩
            obtain ⟨u, u1, rfl⟩ := List.mem_map.mp hv
            exact ⟨fun z => absurd z c3, fun _ => rfl, fun z => absurd z c0⟩
        · rw [if_neg c2] at h
          obtain ⟨x1, x2, x3, x4, x5, x6⟩ := dcR_pv (by omega) hT h hp
          exact ⟨x1, x2, x3, by omega, by omega, fun _ => by omega⟩
end
