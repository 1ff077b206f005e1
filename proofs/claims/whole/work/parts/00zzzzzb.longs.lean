/-! a CODE is read: what comes out -/
def uz (v : Nat) : Int64 := if v % 2 = 0 then lN (v / 2) else -(lN (v / 2)) - 1
def wdF (T : Nat → Nat) (st first last : Nat) : Nat → Nat → Nat → Rd Unit
  | 0, _, p => .ok ((), p)
  | d + 1, i, p => if st ≤ p then .error 1 else if 64 < T p ∨ 0 < T p ∧ last ≤ first + 16 * i then .error 5 else wdF T st first last d (i + 1) (p + 1)
/-- numbers behind others: each is the one before it, the least difference and what is told -/
def exL (T : Nat → Nat) (p w : Nat) (least : Int64) : Nat → List Int64 → List Int64
  | 0, acc => acc
  | k + 1, acc => exL T p w least k acc ++ [(exL T p w least k acc).getLastD 0 + least + lN (bsN T p (w * k) w)]
theorem exL_len {T : Nat → Nat} {p w : Nat} {least : Int64} {acc : List Int64} : ∀ k, (exL T p w least k acc).length = acc.length + k := by
  intro k
  induction k with
  | zero => rfl
  | succ k ih => show (exL T p w least k acc ++ [_]).length = _; rw [List.length_append, ih]; rfl
/-- the parts of a block, q being where their widths stand -/
def ptF (T : Nat → Nat) (st first last q : Nat) (least : Int64) : Nat → Nat → List Int64 → Nat → Rd (List Int64)
  | 0, _, acc, p => .ok (acc, p)
  | d + 1, i, acc, p => if last ≤ first + 16 * i then .ok (acc, p) else if st < p + 2 * T (q + i) then .error 1 else if ∃ k, k < 16 ∧ last ≤ first + 16 * i + k ∧ bsN T p (T (q + i) * k) (T (q + i)) ≠ 0 then .error 5 else ptF T st first last q least d (i + 1) (exL T p (T (q + i)) least (min 16 (last - (first + 16 * i))) acc) (p + 2 * T (q + i))
def blkR (T : Nat → Nat) (st first last : Nat) (acc : List Int64) (p : Nat) : Rd (List Int64) := match vrd T st p with
  | .error e => .error e
  | .ok (v, q) => match wdF T st first last 4 0 q with
    | .error e => .error e
    | .ok (_, q2) => ptF T st first last q (uz v) 4 0 acc q2
def bksF (T : Nat → Nat) (st m : Nat) : Nat → Nat → List Int64 → Nat → Rd (List Int64)
  | 0, _, acc, p => .ok (acc, p)
  | d + 1, first, acc, p => if m - 1 ≤ first then .ok (acc, p) else match blkR T st first (min (first + 64) (m - 1)) acc p with
    | .error e => .error e
    | .ok (acc', q) => bksF T st m d (first + 64) acc' q
/-- the numbers of a CODE that ends at st: n of them are due -/
def lgs (T : Nat → Nat) (n st p : Nat) : Rd (List Int64) := match vrd T st p with
  | .error e => .error e
  | .ok (m, q) => if 2000 < m then .error 4 else match (if m = 0 then (.ok ([], q) : Rd (List Int64)) else match vrd T st q with
      | .error e => .error e
      | .ok (z, q1) => bksF T st m m 0 [uz z] q1) with
    | .error e => .error e
    | .ok (L, q2) => if q2 < st then .error 6 else if m ≠ n then .error 4 else .ok (L, q2)
/-- a CODE with how many bytes it has in front -/
def cde (T : Nat → Nat) (n st p : Nat) : Rd (List Int64) := match vrd T st p with
  | .error e => .error e
  | .ok (z, q) => if st < q + z then .error 1 else lgs T n (q + z) q
section
variable {T : Nat → Nat}
theorem wdF_ok {st first last : Nat} : ∀ d i p u q, wdF T st first last d i p = .ok (u, q) → q = p + d ∧ (0 < d → q ≤ st) ∧ ∀ j, j < d → T (p + j) ≤ 64 ∧ (last ≤ first + 16 * (i + j) → T (p + j) = 0) := by
  intro d
  induction d with
  | zero =>
    intro i p u q h
    simp only [wdF, Except.ok.injEq, Prod.mk.injEq] at h
    exact ⟨by omega, fun z => absurd z (Nat.lt_irrefl _), fun j hj => absurd hj (Nat.not_lt_zero _)⟩
  | succ d ih =>
    intro i p u q h
    simp only [wdF] at h
    by_cases c1 : st ≤ p
    · rw [if_pos c1] at h; exact absurd h (by simp)
    rw [if_neg c1] at h
    by_cases c2 : 64 < T p ∨ 0 < T p ∧ last ≤ first + 16 * i
    · rw [if_pos c2] at h; exact absurd h (by simp)
    rw [if_neg c2] at h
    obtain ⟨h1, h2, h3⟩ := ih _ _ _ _ h
    refine ⟨by omega, fun _ => ?_, fun j hj => ?_⟩
    · by_cases d0 : 0 < d
      · exact h2 d0
      · omega
    · by_cases j0 : j = 0
      · rw [j0]; exact ⟨by show T p ≤ 64; omega, fun z => by show T p = 0; have : last ≤ first + 16 * i := z; omega⟩
      · obtain ⟨a, b⟩ := h3 (j - 1) (by omega)
        rw [show p + 1 + (j - 1) = p + j by omega] at a b
        rw [show i + 1 + (j - 1) = i + j by omega] at b
        exact ⟨a, b⟩
theorem ptF_ok {st first last q : Nat} {least : Int64} : ∀ d i acc p L z, ptF T st first last q least d i acc p = .ok (L, z) → i + d = 4 → last ≤ first + 64 → acc.length = 1 + min last (first + 16 * i) → first ≤ last → p ≤ st → L.length = 1 + last ∧ p ≤ z ∧ z ≤ st := by
  intro d
  induction d with
  | zero =>
    intro i acc p L z h h1 h2 h3 h4 h5
    simp only [ptF, Except.ok.injEq, Prod.mk.injEq] at h
    rw [← h.1, ← h.2]
    omega
  | succ d ih =>
    intro i acc p L z h h1 h2 h3 h4 h5
    simp only [ptF] at h
    by_cases c1 : last ≤ first + 16 * i
    · rw [if_pos c1] at h
      simp only [Except.ok.injEq, Prod.mk.injEq] at h
      rw [← h.1, ← h.2]
      omega
    rw [if_neg c1] at h
    by_cases c2 : st < p + 2 * T (q + i)
    · rw [if_pos c2] at h; exact absurd h (by simp)
    rw [if_neg c2] at h
    by_cases c3 : ∃ k, k < 16 ∧ last ≤ first + 16 * i + k ∧ bsN T p (T (q + i) * k) (T (q + i)) ≠ 0
    · rw [if_pos c3] at h; exact absurd h (by simp)
    rw [if_neg c3] at h
    have := ih _ _ _ _ _ h (by omega) h2 (by rw [exL_len]; omega) h4 (by omega)
    omega
theorem blkR_ok {st first last p z : Nat} {acc L : List Int64} (hT : ∀ i, T i < 256) (h : blkR T st first last acc p = .ok (L, z)) (h1 : acc.length = first + 1) (h2 : first ≤ last) (h3 : last ≤ first + 64) (hp : p ≤ st) : L.length = last + 1 ∧ p ≤ z ∧ z ≤ st := by
  unfold blkR at h
  cases ev : vrd T st p with
  | error e => rw [ev] at h; exact absurd h (by simp)
  | ok w =>
    obtain ⟨v, q⟩ := w
    have vo := vrd_ok hT ev
    rw [ev] at h
    simp only at h
    cases ew : wdF T st first last 4 0 q with
    | error e => rw [ew] at h; exact absurd h (by simp)
    | ok w =>
      obtain ⟨u, q2⟩ := w
      rw [ew] at h
      simp only at h
      obtain ⟨a, b, -⟩ := wdF_ok _ _ _ _ _ ew
      have b := b (by decide)
      have := ptF_ok _ _ _ _ _ _ h rfl h3 (by omega) h2 (by omega)
      omega
theorem bksF_ok {st m : Nat} (hT : ∀ i, T i < 256) (hm : 1 ≤ m) : ∀ d first acc p L z, bksF T st m d first acc p = .ok (L, z) → acc.length = 1 + min first (m - 1) → m - 1 ≤ first + 64 * d → p ≤ st → L.length = m ∧ p ≤ z ∧ z ≤ st := by
  intro d
  induction d with
  | zero =>
    intro first acc p L z h h1 h2 h3
    simp only [bksF, Except.ok.injEq, Prod.mk.injEq] at h
    rw [← h.1, ← h.2]
    omega
  | succ d ih =>
    intro first acc p L z h h1 h2 h3
    simp only [bksF] at h
    by_cases c1 : m - 1 ≤ first
    · rw [if_pos c1] at h
      simp only [Except.ok.injEq, Prod.mk.injEq] at h
      rw [← h.1, ← h.2]
      omega
    rw [if_neg c1] at h
    cases e : blkR T st first (min (first + 64) (m - 1)) acc p with
    | error e' => rw [e] at h; exact absurd h (by simp)
    | ok w =>
      obtain ⟨acc', q⟩ := w
      rw [e] at h
      simp only at h
      obtain ⟨a, b, c⟩ := blkR_ok hT e (by omega) (by omega) (by omega) h3
      have := ih _ _ _ _ _ h (by omega) (by omega) c
      omega
theorem lgs_ok {n st p z : Nat} {L : List Int64} (hT : ∀ i, T i < 256) (h : lgs T n st p = .ok (L, z)) (hp : p ≤ st) : L.length = n ∧ n ≤ 2000 ∧ z = st := by
  unfold lgs at h
  cases ev : vrd T st p with
  | error e => rw [ev] at h; exact absurd h (by simp)
  | ok w =>
    obtain ⟨m, q⟩ := w
    have vo := vrd_ok hT ev
    rw [ev] at h
    simp only at h
    by_cases c1 : 2000 < m
    · rw [if_pos c1] at h; exact absurd h (by simp)
    rw [if_neg c1] at h
    by_cases c0 : m = 0
    · rw [if_pos c0] at h
      simp only at h
      by_cases c2 : q < st
      · rw [if_pos c2] at h; exact absurd h (by simp)
      rw [if_neg c2] at h
      by_cases c3 : m ≠ n
      · rw [if_pos c3] at h; exact absurd h (by simp)
      rw [if_neg c3] at h
      simp only [Except.ok.injEq, Prod.mk.injEq] at h
      rw [← h.1]
      exact ⟨by show 0 = n; omega, by omega, by omega⟩
    · rw [if_neg c0] at h
      cases e2 : vrd T st q with
      | error e => rw [e2] at h; exact absurd h (by simp)
      | ok w =>
        obtain ⟨v, q1⟩ := w
        have vo2 := vrd_ok hT e2
        rw [e2] at h
        simp only at h
        cases e3 : bksF T st m m 0 [uz v] q1 with
        | error e => rw [e3] at h; exact absurd h (by simp)
        | ok w =>
          obtain ⟨L', q2⟩ := w
          rw [e3] at h
          simp only at h
          obtain ⟨a, b, c⟩ := bksF_ok hT (by omega) _ _ _ _ _ _ e3 (by show 1 = 1 + min 0 (m - 1); omega) (by omega) (by omega)
          by_cases c2 : q2 < st
          · rw [if_pos c2] at h; exact absurd h (by simp)
          rw [if_neg c2] at h
          by_cases c3 : m ≠ n
          · rw [if_pos c3] at h; exact absurd h (by simp)
          rw [if_neg c3] at h
          simp only [Except.ok.injEq, Prod.mk.injEq] at h
          rw [← h.1]
          exact ⟨by omega, by omega, by omega⟩
end
