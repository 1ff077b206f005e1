/-! reading bytes: what comes out, or the fault -/
abbrev Rd (α : Type) : Type := Except Nat (α × Nat)
def vrF (T : Nat → Nat) (st : Nat) : Nat → Nat → Nat → Nat → Rd Nat
  | 0, _, _, _ => .error 2
  | d + 1, k, a, p => if st ≤ p then .error 1 else if k = 9 ∧ 1 < T p ∨ 0 < k ∧ T p = 0 then .error 2 else if T p < 128 then .ok (a + T p % 128 * 2 ^ (7 * k), p + 1) else vrF T st d (k + 1) (a + T p % 128 * 2 ^ (7 * k)) (p + 1)
/-- a VARINT -/
def vrd (T : Nat → Nat) (st p : Nat) : Rd Nat := vrF T st 10 0 0 p
def fxV (T : Nat → Nat) (p : Nat) : Nat → Nat
  | 0 => 0
  | n + 1 => fxV T p n + T (p + n) * 256 ^ n
/-- bytes, the lowest first -/
def fxd (T : Nat → Nat) (n st p : Nat) : Rd Nat := if st < p + n then .error 1 else .ok (fxV T p n, p + n)
def btN (T : Nat → Nat) (p m : Nat) : Nat := T (p + m / 8) / 2 ^ (m % 8) % 2
def bsN (T : Nat → Nat) (p m : Nat) : Nat → Nat
  | 0 => 0
  | w + 1 => bsN T p m w + btN T p (m + w) * 2 ^ w
/-- numbers of a width, one behind the other -/
def grL (T : Nat → Nat) (p w : Nat) : Nat → List Nat
  | 0 => []
  | n + 1 => grL T p w n ++ [bsN T p (w * n) w]
def rnF (T : Nat → Nat) (w st n : Nat) : Nat → List Nat → Nat → Rd (List Nat)
  | 0, acc, p => .ok (acc, p)
  | d + 1, acc, p => if n ≤ acc.length then .ok (acc, p) else match vrd T st p with
    | .error e => .error e
    | .ok (h, q) => if h / 2 = 0 then .error 3 else if h % 2 = 0 then
        (if n - acc.length < h / 2 then .error 4 else if st < q + (w + 7) / 8 then .error 1 else if 2 ^ w ≤ fxV T q ((w + 7) / 8) then .error 5 else rnF T w st n d (acc ++ List.replicate (h / 2) (fxV T q ((w + 7) / 8))) (q + (w + 7) / 8))
      else
        (if (n - acc.length + 7) / 8 < h / 2 then .error 4 else if st < q + h / 2 * w then .error 1 else if ∃ j, j < 8 * (h / 2) ∧ n - acc.length ≤ j ∧ bsN T q (w * j) w ≠ 0 then .error 5 else rnF T w st n d (acc ++ grL T q w (min (8 * (h / 2)) (n - acc.length))) (q + h / 2 * w))
/-- RUNS -/
def rns (T : Nat → Nat) (n w st p : Nat) : Rd (List Nat) := rnF T w st n n [] p
section
variable {T : Nat → Nat}
theorem vrF_ok {st : Nat} (hT : ∀ i, T i < 256) : ∀ d k a p v q, vrF T st d k a p = .ok (v, q) → k + d = 10 → a < 2 ^ (7 * k) → v < 2 ^ 64 ∧ p < q ∧ q ≤ st := by
  intro d
  induction d with
  | zero => intro k a p v q h; exact absurd h (by simp [vrF])
  | succ d ih =>
    intro k a p v q h hk ha
    simp only [vrF] at h
    by_cases c1 : st ≤ p
    · rw [if_pos c1] at h; exact absurd h (by simp)
    rw [if_neg c1] at h
    by_cases c2 : k = 9 ∧ 1 < T p ∨ 0 < k ∧ T p = 0
    · rw [if_pos c2] at h; exact absurd h (by simp)
    rw [if_neg c2] at h
    have e7 : 2 ^ (7 * (k + 1)) = 2 ^ (7 * k) * 128 := by rw [Nat.mul_add, Nat.pow_add]
    have lt : a + T p % 128 * 2 ^ (7 * k) < 2 ^ (7 * (k + 1)) := by
      have m : T p % 128 ≤ 127 := by omega
      have := Nat.mul_le_mul_right (2 ^ (7 * k)) m
      rw [e7]
      omega
    by_cases c3 : T p < 128
    · rw [if_pos c3] at h
      simp only [Except.ok.injEq, Prod.mk.injEq] at h
      refine ⟨?_, by omega, by omega⟩
      by_cases c9 : k = 9
      · have t1 : T p ≤ 1 := Nat.not_lt.mp (fun z => c2 (Or.inl ⟨c9, z⟩))
        rw [← h.1]
        rw [c9] at ha ⊢
        have := Nat.mul_le_mul_right (2 ^ (7 * 9)) (show T p % 128 ≤ 1 by omega)
        have e : 2 ^ (7 * 9) = 9223372036854775808 := by decide
        omega
      · have : 2 ^ (7 * (k + 1)) ≤ 2 ^ 63 := Nat.pow_le_pow_right (by decide) (by omega)
        have e : 2 ^ 63 < 2 ^ 64 := by decide
        omega
    · rw [if_neg c3] at h
      have := ih _ _ _ _ _ h (by omega) lt
      omega
theorem vrd_ok {st p v q : Nat} (hT : ∀ i, T i < 256) (h : vrd T st p = .ok (v, q)) : v < 2 ^ 64 ∧ p < q ∧ q ≤ st := vrF_ok hT 10 0 0 p v q h rfl (by decide)
theorem fxV_lt {p : Nat} (hT : ∀ i, T i < 256) : ∀ n, fxV T p n < 256 ^ n := by
  intro n
  induction n with
  | zero => exact Nat.one_pos
  | succ n ih =>
    show fxV T p n + T (p + n) * 256 ^ n < _
    have := Nat.mul_le_mul_right (256 ^ n) (show T (p + n) ≤ 255 by have := hT (p + n); omega)
    rw [Nat.pow_succ]
    omega
theorem btN_le (p m : Nat) : btN T p m ≤ 1 := by unfold btN; omega
theorem bsN_lt {p m : Nat} : ∀ w, bsN T p m w < 2 ^ w := by
  intro w
  induction w with
  | zero => exact Nat.one_pos
  | succ w ih =>
    show bsN T p m w + btN T p (m + w) * 2 ^ w < _
    have := Nat.mul_le_mul_right (2 ^ w) (btN_le (T := T) p (m + w))
    rw [Nat.pow_succ]
    omega
theorem grL_len {p w : Nat} : ∀ n, (grL T p w n).length = n := by
  intro n
  induction n with
  | zero => rfl
  | succ n ih => show (grL T p w n ++ [_]).length = _; rw [List.length_append, ih]; rfl
theorem grL_at {p w : Nat} : ∀ n j, j < n → (grL T p w n).getD j 0 = bsN T p (w * j) w := by
  intro n
  induction n with
  | zero => intro j h; exact absurd h (Nat.not_lt_zero _)
  | succ n ih =>
    intro j h
    show (grL T p w n ++ [_]).getD j 0 = _
    by_cases c : j < n
    · rw [getD_app1 (by rw [grL_len]; exact c)]; exact ih j c
    · have e : j = n := by omega
      subst e
      rw [getD_app2 (by rw [grL_len]; exact Nat.le_refl _), grL_len, Nat.sub_self]
      rfl
theorem rnF_fuel {w st n : Nat} : ∀ d e acc p, n ≤ acc.length + d → n ≤ acc.length + e → rnF T w st n d acc p = rnF T w st n e acc p := by
  intro d
  induction d with
  | zero =>
    intro e acc p h1 h2
    cases e with
    | zero => rfl
    | succ e => simp only [rnF]; rw [if_pos (by omega)]
  | succ d ih =>
    intro e acc p h1 h2
    cases e with
    | zero => simp only [rnF]; rw [if_pos (by omega)]
    | succ e =>
      simp only [rnF]
      by_cases c : n ≤ acc.length
      · rw [if_pos c, if_pos c]
      · rw [if_neg c, if_neg c]
        cases vrd T st p with
        | error e => rfl
        | ok z =>
          obtain ⟨h, q⟩ := z
          simp only
          by_cases c0 : h / 2 = 0
          · rw [if_pos c0, if_pos c0]
          · rw [if_neg c0, if_neg c0]
            rw [ih e (acc ++ List.replicate (h / 2) (fxV T q ((w + 7) / 8))) _ (by rw [List.length_append, List.length_replicate]; omega) (by rw [List.length_append, List.length_replicate]; omega), ih e (acc ++ grL T q w (min (8 * (h / 2)) (n - acc.length))) _ (by rw [List.length_append, grL_len]; omega) (by rw [List.length_append, grL_len]; omega)]
theorem rnF_ok {w st n : Nat} (hT : ∀ i, T i < 256) : ∀ d acc p L q, rnF T w st n d acc p = .ok (L, q) → acc.length ≤ n → n ≤ acc.length + d → (∀ v, v ∈ acc → v < 2 ^ w) → p ≤ st → L.length = n ∧ (∀ v, v ∈ L → v < 2 ^ w) ∧ p ≤ q ∧ q ≤ st := by
  intro d
  induction d with
  | zero =>
    intro acc p L q h h1 h2 h3 h4
    simp only [rnF, Except.ok.injEq, Prod.mk.injEq] at h
    rw [← h.1, ← h.2]
    exact ⟨by omega, h3, Nat.le_refl _, h4⟩
  | succ d ih =>
    intro acc p L q h h1 h2 h3 h4
    simp only [rnF] at h
    by_cases c : n ≤ acc.length
    · rw [if_pos c] at h
      simp only [Except.ok.injEq, Prod.mk.injEq] at h
      rw [← h.1, ← h.2]
      exact ⟨by omega, h3, Nat.le_refl _, h4⟩
    · rw [if_neg c] at h
      cases ev : vrd T st p with
      | error e => rw [ev] at h; exact absurd h (by simp)
      | ok z =>
        obtain ⟨hh, q1⟩ := z
        have vo := vrd_ok hT ev
        rw [ev] at h
        simp only at h
        by_cases c0 : hh / 2 = 0
        · rw [if_pos c0] at h; exact absurd h (by simp)
        rw [if_neg c0] at h
        by_cases c1 : hh % 2 = 0
        · rw [if_pos c1] at h
          by_cases c2 : n - acc.length < hh / 2
          · rw [if_pos c2] at h; exact absurd h (by simp)
          rw [if_neg c2] at h
          by_cases c3 : st < q1 + (w + 7) / 8
          · rw [if_pos c3] at h; exact absurd h (by simp)
          rw [if_neg c3] at h
          by_cases c4 : 2 ^ w ≤ fxV T q1 ((w + 7) / 8)
          · rw [if_pos c4] at h; exact absurd h (by simp)
          rw [if_neg c4] at h
          have := ih _ _ _ _ h (by rw [List.length_append, List.length_replicate]; omega) (by rw [List.length_append, List.length_replicate]; omega) (fun v hv => by
            rcases List.mem_append.mp hv with z | z
            · exact h3 v z
            · rw [(List.mem_replicate.mp z).2]; omega) (by omega)
          exact ⟨this.1, this.2.1, by omega, this.2.2.2⟩
        · rw [if_neg c1] at h
          by_cases c2 : (n - acc.length + 7) / 8 < hh / 2
          · rw [if_pos c2] at h; exact absurd h (by simp)
          rw [if_neg c2] at h
          by_cases c3 : st < q1 + hh / 2 * w
          · rw [if_pos c3] at h; exact absurd h (by simp)
          rw [if_neg c3] at h
          by_cases c4 : ∃ j, j < 8 * (hh / 2) ∧ n - acc.length ≤ j ∧ bsN T q1 (w * j) w ≠ 0
          · rw [if_pos c4] at h; exact absurd h (by simp)
          rw [if_neg c4] at h
          have := ih _ _ _ _ h (by rw [List.length_append, grL_len]; omega) (by rw [List.length_append, grL_len]; omega) (fun v hv => by
            rcases List.mem_append.mp hv with z | z
            · exact h3 v z
            · obtain ⟨j, hj, rfl⟩ := List.getElem_of_mem z
              have e1 : (grL T q1 w (min (8 * (hh / 2)) (n - acc.length))).getD j 0 = (grL T q1 w (min (8 * (hh / 2)) (n - acc.length)))[j] := by
                rw [List.getD_eq_getElem?_getD, List.getElem?_eq_getElem hj]; rfl
              rw [← e1, grL_at _ _ (by rw [grL_len] at hj; exact hj)]
              exact bsN_lt w) (by omega)
          exact ⟨this.1, this.2.1, by omega, this.2.2.2⟩
theorem rns_ok {n w st p : Nat} {L : List Nat} {q : Nat} (hT : ∀ i, T i < 256) (h : rns T n w st p = .ok (L, q)) (hp : p ≤ st) : L.length = n ∧ (∀ v, v ∈ L → v < 2 ^ w) ∧ p ≤ q ∧ q ≤ st :=
  rnF_ok hT n [] p L q h (Nat.zero_le _) (by rw [List.length_nil]; omega) (fun v hv => absurd hv (by simp)) hp
end
/-! longs as numbers without a sign -/
theorem lN_int {v : Nat} (h : v < 2 ^ 64) : (lN v).toInt = if v < 2 ^ 63 then (v : Int) else (v : Int) - 2 ^ 64 := by
  show (BitVec.ofNat 64 v).toInt = _
  rw [BitVec.toInt_eq_toNat_cond, BitVec.toNat_ofNat, Nat.mod_eq_of_lt h]
  by_cases c : v < 2 ^ 63
  · rw [if_pos (by omega), if_pos c]
  · rw [if_neg (by omega), if_neg c]; rfl
theorem lN_neg2 {v : Nat} (h : v < 2 ^ 64) : lN v < 0 ↔ 2 ^ 63 ≤ v := by
  rw [Int64.lt_iff_toInt_lt, lN_int h, show (0 : Int64).toInt = 0 from rfl]
  by_cases c : v < 2 ^ 63
  · rw [if_pos c]; omega
  · rw [if_neg c]; omega
theorem lN_lt2 {a b : Nat} (ha : a < 2 ^ 63) (hb : b < 2 ^ 63) : lN a < lN b ↔ a < b := by
  rw [Int64.lt_iff_toInt_lt, lN_int (by omega), lN_int (by omega), if_pos ha, if_pos hb]
  omega
theorem lN_le2 {a b : Nat} (ha : a < 2 ^ 63) (hb : b < 2 ^ 63) : lN a ≤ lN b ↔ a ≤ b := by
  rw [Int64.le_iff_toInt_le, lN_int (by omega), lN_int (by omega), if_pos ha, if_pos hb]
  omega
/-- below 0, or above m: as a number without a sign it is above m -/
theorem lN_out {v m : Nat} (h : v < 2 ^ 64) (hm : m < 2 ^ 62) : (lN v < 0 ∨ ¬ lN v ≤ lN m) ↔ m < v := by
  rw [lN_neg2 h]
  by_cases c : v < 2 ^ 63
  · rw [lN_le2 c (by omega)]; omega
  · omega
theorem lN_32 {v : Nat} (h : v < 2 ^ 31) : (lN v).toInt32 = nI v := by
  apply Int32.toBitVec_inj.mp
  rw [Int64.toBitVec_toInt32, BitVec.signExtend_eq_setWidth_of_le _ (by decide)]
  show (BitVec.ofNat 64 v).setWidth 32 = BitVec.ofNat 32 v
  apply BitVec.eq_of_toNat_eq
  rw [BitVec.toNat_setWidth, BitVec.toNat_ofNat, BitVec.toNat_ofNat]
  omega
