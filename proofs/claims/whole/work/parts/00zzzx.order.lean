/-! values in their order -/
def ltR : List Int32 → List Int32 → Prop
  | [], [] => False
  | [], _ :: _ => True
  | _ :: _, [] => False
  | a :: s, b :: t => a.toInt < b.toInt ∨ (a = b ∧ ltR s t)
theorem ltR_irr : ∀ s, ¬ ltR s s := by
  intro s
  induction s with
  | nil => exact fun h => h
  | cons a s ih =>
    rintro (h | h)
    · omega
    · exact ih h.2
theorem ltR_tr : ∀ s t u, ltR s t → ltR t u → ltR s u := by
  intro s
  induction s with
  | nil =>
    intro t u h1 h2
    cases u with
    | nil =>
      cases t with
      | nil => exact h1
      | cons b t => exact h2
    | cons c u => exact trivial
  | cons a s ih =>
    intro t u h1 h2
    cases t with
    | nil => exact absurd h1 (fun h => h)
    | cons b t =>
      cases u with
      | nil => exact absurd h2 (fun h => h)
      | cons c u =>
        rcases h1 with h1 | ⟨h1, h1'⟩ <;> rcases h2 with h2 | ⟨h2, h2'⟩
        · exact Or.inl (by omega)
        · exact Or.inl (by rw [← h2]; exact h1)
        · exact Or.inl (by rw [h1]; exact h2)
        · exact Or.inr ⟨h1.trans h2, ih t u h1' h2'⟩
theorem ltR_tot : ∀ s t, ¬ ltR s t → ¬ ltR t s → s = t := by
  intro s
  induction s with
  | nil =>
    intro t h1 h2
    cases t with
    | nil => rfl
    | cons b t => exact absurd trivial h1
  | cons a s ih =>
    intro t h1 h2
    cases t with
    | nil => exact absurd trivial h2
    | cons b t =>
      have e : a = b := by
        apply Int32.toInt_inj.mp
        have n1 : ¬ a.toInt < b.toInt := fun z => h1 (Or.inl z)
        have n2 : ¬ b.toInt < a.toInt := fun z => h2 (Or.inl z)
        omega
      subst e
      rw [ih t (fun z => h1 (Or.inr ⟨rfl, z⟩)) (fun z => h2 (Or.inr ⟨rfl, z⟩))]
theorem okT_tl {a : Int32} {s : List Int32} (h : okT (a :: s)) : okT s ∧ 0 ≤ a ∧ a ≤ 255 := by
  refine ⟨⟨?_, fun j hj => ?_⟩, h.2 0 (Nat.succ_pos _)⟩
  · have := h.1
    rw [List.length_cons] at this
    omega
  · exact h.2 (j + 1) (by rw [List.length_cons]; omega)
theorem sub_ti {a b : Int32} (ha : 0 ≤ a ∧ a ≤ 255) (hb : 0 ≤ b ∧ b ≤ 255) : (a - b).toInt = a.toInt - b.toInt := by
  have a1 := Int32.le_iff_toInt_le.mp ha.1
  have a2 := Int32.le_iff_toInt_le.mp ha.2
  have b1 := Int32.le_iff_toInt_le.mp hb.1
  have b2 := Int32.le_iff_toInt_le.mp hb.2
  have z0 : (0 : Int32).toInt = 0 := rfl
  have z5 : (255 : Int32).toInt = 255 := rfl
  rw [Int32.toInt_sub, Int.bmod_eq_of_le (by omega) (by omega)]
theorem nsub_ti {m n : Nat} (hm : m ≤ 255) (hn : n ≤ 255) : (nI m - nI n).toInt = (m : Int) - n := by
  have h : ∀ k, k ≤ 255 → (nI k).toInt = (k : Int) ∧ (0 : Int32) ≤ nI k ∧ nI k ≤ 255 := fun k hk => by
    have e : (nI k).toInt = (k : Int) := nI_toInt (by omega)
    have z0 : (0 : Int32).toInt = 0 := rfl
    have z5 : (255 : Int32).toInt = 255 := rfl
    refine ⟨e, ?_, ?_⟩
    · rw [Int32.le_iff_toInt_le]; omega
    · rw [Int32.le_iff_toInt_le]; omega
  rw [sub_ti (h m hm).2 (h n hn).2, (h m hm).1, (h n hn).1]
theorem cmpT_cons {a b : Int32} {s t : List Int32} (ha : okT (a :: s)) (hb : okT (b :: t)) : (cmpT (a :: s) (b :: t)).toInt = if a = b then (cmpT s t).toInt else a.toInt - b.toInt := by
  by_cases e : a = b
  · rw [if_pos e]
    have ec : cpl (a :: s) (b :: t) = cpl s t + 1 := by show (if a = b then _ else _) = _; rw [if_pos e]
    unfold cmpT
    rw [ec, List.length_cons, List.length_cons]
    by_cases c : cpl s t < s.length ∧ cpl s t < t.length
    · rw [if_pos ⟨by omega, by omega⟩, if_pos c]
      rfl
    · rw [if_neg (by omega), if_neg c]
      have l1 := ha.1
      have l2 := hb.1
      rw [List.length_cons] at l1 l2
      rw [nsub_ti l1 l2, nsub_ti (by omega) (by omega)]
      omega
  · rw [if_neg e]
    have ec : cpl (a :: s) (b :: t) = 0 := by show (if a = b then _ else _) = _; rw [if_neg e]
    unfold cmpT
    rw [ec, if_pos ⟨Nat.succ_pos _, Nat.succ_pos _⟩]
    exact sub_ti (okT_tl ha).2 (okT_tl hb).2
theorem cmpT_lt : ∀ s t, okT s → okT t → ((cmpT s t).toInt < 0 ↔ ltR s t) ∧ (0 < (cmpT s t).toInt ↔ ltR t s) := by
  intro s
  induction s with
  | nil =>
    intro t h1 h2
    have l2 := h2.1
    have e : (cmpT [] t).toInt = -(t.length : Int) := by
      unfold cmpT
      rw [if_neg (fun z => absurd z.1 (Nat.not_lt_zero _))]
      show (nI 0 - nI t.length).toInt = _
      rw [nsub_ti (by omega) l2]
      omega
    rw [e]
    cases t with
    | nil =>
      exact ⟨⟨fun z => absurd z (by decide), fun z => z.elim⟩, ⟨fun z => absurd z (by decide), fun z => z.elim⟩⟩
    | cons b t =>
      rw [List.length_cons]
      exact ⟨⟨fun _ => trivial, fun _ => by omega⟩, ⟨fun z => by exfalso; omega, fun z => z.elim⟩⟩
  | cons a s ih =>
    intro t h1 h2
    cases t with
    | nil =>
      have l1 := h1.1
      have e : (cmpT (a :: s) []).toInt = ((s.length + 1 : Nat) : Int) := by
        unfold cmpT
        rw [if_neg (fun z => absurd z.2 (Nat.not_lt_zero _))]
        show (nI (a :: s).length - nI 0).toInt = _
        rw [nsub_ti l1 (by omega), List.length_cons]
        omega
      rw [e]
      exact ⟨⟨fun z => by exfalso; omega, fun z => z.elim⟩, ⟨fun _ => trivial, fun _ => by omega⟩⟩
    | cons b t =>
      rw [cmpT_cons h1 h2]
      have q := ih t (okT_tl h1).1 (okT_tl h2).1
      by_cases e : a = b
      · rw [if_pos e]
        subst e
        show (_ ↔ (a.toInt < a.toInt ∨ (a = a ∧ ltR s t))) ∧ (_ ↔ (a.toInt < a.toInt ∨ (a = a ∧ ltR t s)))
        refine ⟨q.1.trans ⟨fun z => Or.inr ⟨rfl, z⟩, fun z => z.elim (fun w => by omega) (fun w => w.2)⟩, q.2.trans ⟨fun z => Or.inr ⟨rfl, z⟩, fun z => z.elim (fun w => by omega) (fun w => w.2)⟩⟩
      · rw [if_neg e]
        show (_ ↔ (a.toInt < b.toInt ∨ (a = b ∧ ltR s t))) ∧ (_ ↔ (b.toInt < a.toInt ∨ (b = a ∧ ltR t s)))
        refine ⟨⟨fun z => Or.inl (by omega), fun z => z.elim (fun w => by omega) (fun w => absurd w.1 e)⟩, ⟨fun z => Or.inl (by omega), fun z => z.elim (fun w => by omega) (fun w => absurd w.1.symm e)⟩⟩
/-- one value comes before another -/
def ltV (ty : Nat) (p q : PV) : Prop := if ty = 3 then ltR p.2 q.2 else p.1.toInt < q.1.toInt
theorem cmpV_lt {ty : Nat} {p q : PV} (hp : okVv ty p) (hq : okVv ty q) : (cmpV ty p q < 0 ↔ ltV ty p q) ∧ (0 < cmpV ty p q ↔ ltV ty q p) := by
  unfold cmpV ltV
  have z0 : (0 : Int32).toInt = 0 := rfl
  by_cases c : ty = 3
  · rw [if_pos c, if_pos c, if_pos c, Int32.lt_iff_toInt_lt, Int32.lt_iff_toInt_lt, z0]
    exact cmpT_lt p.2 q.2 (hp c) (hq c)
  · rw [if_neg c, if_neg c, if_neg c]
    by_cases h1 : p.1 < q.1
    · rw [if_pos h1]
      rw [Int64.lt_iff_toInt_lt] at h1
      exact ⟨⟨fun _ => h1, fun _ => by decide⟩, ⟨fun z => absurd z (by decide), fun z => by omega⟩⟩
    · rw [if_neg h1]
      rw [Int64.lt_iff_toInt_lt] at h1
      by_cases h2 : q.1 < p.1
      · rw [if_pos h2]
        rw [Int64.lt_iff_toInt_lt] at h2
        exact ⟨⟨fun z => absurd z (by decide), fun z => by omega⟩, ⟨fun _ => h2, fun _ => by decide⟩⟩
      · rw [if_neg h2]
        rw [Int64.lt_iff_toInt_lt] at h2
        exact ⟨⟨fun z => absurd z (by decide), fun z => by omega⟩, ⟨fun z => absurd z (by decide), fun z => by omega⟩⟩
theorem ltV_tr {ty : Nat} {p q r : PV} (h1 : ltV ty p q) (h2 : ltV ty q r) : ltV ty p r := by
  unfold ltV at *
  by_cases c : ty = 3
  · rw [if_pos c] at *
    exact ltR_tr _ _ _ h1 h2
  · rw [if_neg c] at *
    omega
theorem ltV_irr {ty : Nat} {p : PV} : ¬ ltV ty p p := by
  unfold ltV
  split
  · exact ltR_irr _
  · omega
theorem ltV_tot {ty : Nat} {p q : PV} (h1 : ¬ ltV ty p q) (h2 : ¬ ltV ty q p) : kv ty p = kv ty q := by
  unfold ltV at h1 h2
  unfold kv
  by_cases c : ty = 3
  · rw [if_pos c] at *
    rw [if_pos c, ltR_tot _ _ h1 h2]
  · rw [if_neg c] at *
    rw [if_neg c]
    have : p.1 = q.1 := Int64.toInt_inj.mp (by omega)
    rw [this]
theorem told_kv {ty : Nat} {p q : PV} (h : kv ty p = kv ty q) : toldB ty p = toldB ty q := by
  unfold kv at h
  unfold toldB
  by_cases c : ty = 3
  · rw [if_pos c, if_pos c] at h
    rw [if_pos c, if_pos c, (Prod.mk.inj h).2]
  · rw [if_neg c, if_neg c] at h
    rw [if_neg c, if_neg c, (Prod.mk.inj h).1]
/-- the least of a list: no other comes before it -/
def IsMn (ty : Nat) (P : List PV) (m : PV) : Prop := m ∈ P ∧ ∀ p, p ∈ P → ¬ ltV ty p m
def IsMx (ty : Nat) (P : List PV) (m : PV) : Prop := m ∈ P ∧ ∀ p, p ∈ P → ¬ ltV ty m p
theorem IsMn.un {ty : Nat} {P : List PV} {a b : PV} (h : IsMn ty P a) (k : IsMn ty P b) : toldB ty a = toldB ty b := told_kv (ltV_tot (k.2 a h.1) (h.2 b k.1))
theorem IsMx.un {ty : Nat} {P : List PV} {a b : PV} (h : IsMx ty P a) (k : IsMx ty P b) : toldB ty a = toldB ty b := told_kv (ltV_tot (h.2 b k.1) (k.2 a h.1))
theorem IsMn.app {ty : Nat} {P Q : List PV} {a b : PV} (h : IsMn ty P a) (k : IsMn ty Q b) : (ltV ty b a → IsMn ty (P ++ Q) b) ∧ (¬ ltV ty b a → IsMn ty (P ++ Q) a) := by
  refine ⟨fun z => ⟨List.mem_append_right _ k.1, fun p hp w => ?_⟩, fun z => ⟨List.mem_append_left _ h.1, fun p hp w => ?_⟩⟩
  · rcases List.mem_append.mp hp with q | q
    · exact h.2 p q (ltV_tr w z)
    · exact k.2 p q w
  · rcases List.mem_append.mp hp with q | q
    · exact h.2 p q w
    · by_cases e : ltV ty a b
      · exact k.2 p q (ltV_tr w e)
      · have kq := ltV_tot z e
        refine k.2 p q ?_
        unfold ltV at w ⊢
        unfold kv at kq
        by_cases c : ty = 3
        · rw [if_pos c] at w ⊢
          rw [if_pos c, if_pos c] at kq
          rw [(Prod.mk.inj kq).2]; exact w
        · rw [if_neg c] at w ⊢
          rw [if_neg c, if_neg c] at kq
          rw [(Prod.mk.inj kq).1]; exact w
