/-! the class's entries of a column, as a list -/
theorem idx_map {E : List SEn} {c : Nat} : (idx E c).map (en E) = colE c E := by
  have key : ∀ n, n ≤ E.length → ((List.range n).filter (fun i => decide ((E.getD i en0).1 = c))).map (en E) = colE c (E.take n) := by
    intro n
    induction n with
    | zero => intro _; rfl
    | succ n ih =>
      intro h
      have e : E.take (n + 1) = E.take n ++ [en E n] := tk1 (m := n) (by omega)
      rw [List.range_succ, List.filter_append, List.map_append, ih (by omega), e, colE_app]
      congr 1
      by_cases z : (en E n).1 = c
      · have z' : (E.getD n en0).1 = c := z
        rw [List.filter_cons, decide_eq_true z', colE_cons, if_pos z]; rfl
      · have z' : ¬ (E.getD n en0).1 = c := z
        rw [List.filter_cons, decide_eq_false z', colE_cons, if_neg z]; rfl
  have := key E.length (Nat.le_refl _)
  rw [List.take_length] at this
  exact this
/-- a list of places cut as a list of entries is cut -/
def cutL : List Nat → List Nat → List (List Nat)
  | [], _ => []
  | n :: ns, l => l.take n :: cutL ns (l.drop n)
theorem cutL_flat : ∀ (ns : List Nat) (l : List Nat), ns.sum = l.length → (cutL ns l).flatten = l := by
  intro ns
  induction ns with
  | nil =>
    intro l h
    have : l.length = 0 := h.symm
    rw [List.length_eq_zero_iff.mp this]
    rfl
  | cons n ns ih =>
    intro l h
    rw [List.sum_cons] at h
    show l.take n ++ (cutL ns (l.drop n)).flatten = l
    rw [ih (l.drop n) (by rw [List.length_drop]; omega), List.take_append_drop]
theorem cutL_map {f : Nat → SEn} : ∀ (R : List (List SEn)) (l : List Nat), l.map f = R.flatten → (cutL (R.map List.length) l).map (List.map f) = R := by
  intro R
  induction R with
  | nil => intro l _; rfl
  | cons r R ih =>
    intro l h
    have h : l.map f = r ++ R.flatten := h
    show (l.take r.length).map f :: (cutL (R.map List.length) (l.drop r.length)).map (List.map f) = r :: R
    have e1 : (l.take r.length).map f = r := by rw [List.map_take, h]; exact List.take_left' rfl
    have e2 : (l.drop r.length).map f = R.flatten := by rw [List.map_drop, h]; exact List.drop_left' rfl
    rw [e1, ih _ e2]
