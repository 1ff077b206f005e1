/-! least and greatest are what they should be -/
theorem ltV_cg {ty : Nat} {p a b : PV} (h : kv ty a = kv ty b) : (ltV ty p a ↔ ltV ty p b) ∧ (ltV ty a p ↔ ltV ty b p) := by
  unfold ltV
  unfold kv at h
  by_cases c : ty = 3
  · rw [if_pos c, if_pos c] at h
    rw [if_pos c, if_pos c, if_pos c, if_pos c, (Prod.mk.inj h).2]
    exact ⟨Iff.rfl, Iff.rfl⟩
  · rw [if_neg c, if_neg c] at h
    rw [if_neg c, if_neg c, if_neg c, if_neg c, (Prod.mk.inj h).1]
    exact ⟨Iff.rfl, Iff.rfl⟩
theorem IsMx.app {ty : Nat} {P Q : List PV} {a b : PV} (h : IsMx ty P a) (k : IsMx ty Q b) : (ltV ty a b → IsMx ty (P ++ Q) b) ∧ (¬ ltV ty a b → IsMx ty (P ++ Q) a) := by
  refine ⟨fun z => ⟨List.mem_append_right _ k.1, fun p hp w => ?_⟩, fun z => ⟨List.mem_append_left _ h.1, fun p hp w => ?_⟩⟩
  · rcases List.mem_append.mp hp with q | q
    · exact h.2 p q (ltV_tr z w)
    · exact k.2 p q w
  · rcases List.mem_append.mp hp with q | q
    · exact h.2 p q w
    · by_cases e : ltV ty b a
      · exact k.2 p q (ltV_tr e w)
      · exact k.2 p q ((ltV_cg (ltV_tot z e)).2.mp w)
theorem IsMn.one {ty : Nat} {p : PV} : IsMn ty [p] p ∧ IsMx ty [p] p := by
  refine ⟨⟨List.mem_singleton.mpr rfl, fun q hq => ?_⟩, ⟨List.mem_singleton.mpr rfl, fun q hq => ?_⟩⟩
  · rw [List.mem_singleton.mp hq]; exact ltV_irr
  · rw [List.mem_singleton.mp hq]; exact ltV_irr
theorem tkP {P : List PV} {k : Nat} (h : k < P.length) : P.take (k + 1) = P.take k ++ [pvd P k] := by
  rw [List.take_succ_eq_append_getElem h]
  congr 2
  show _ = P.getD k (0, [])
  rw [List.getD_eq_getElem?_getD, List.getElem?_eq_getElem h]
  rfl
theorem mn_is {ty : Nat} {P : List PV} (ok : ∀ i, i < P.length → okVv ty (pvd P i)) : ∀ k, k < P.length → IsMn ty (P.take (k + 1)) (pvd P (mnF ty P k)) ∧ IsMx ty (P.take (k + 1)) (pvd P (mxF ty P k)) := by
  intro k
  induction k with
  | zero =>
    intro h
    rw [tkP h, List.take_zero, List.nil_append]
    exact IsMn.one
  | succ k ih =>
    intro h
    have q := ih (by omega)
    have m1 := mnF_le (ty := ty) (P := P) k
    have m2 := mxF_le (ty := ty) (P := P) k
    rw [tkP h]
    have o1 := IsMn.one (ty := ty) (p := pvd P (k + 1))
    have c1 := cmpV_lt (ok (k + 1) h) (ok (mnF ty P k) (by omega))
    have c2 := cmpV_lt (ok (k + 1) h) (ok (mxF ty P k) (by omega))
    constructor
    · simp only [mnF]
      split
      · rename_i z
        exact (q.1.app o1.1).1 (c1.1.mp z)
      · rename_i z
        exact (q.1.app o1.1).2 (fun w => z (c1.1.mpr w))
    · simp only [mxF]
      split
      · rename_i z
        exact (q.2.app o1.2).1 (c2.2.mp z)
      · rename_i z
        exact (q.2.app o1.2).2 (fun w => z (c2.2.mpr w))
/-- the bounds of a list told -/
theorem bnd_is {ty : Nat} {P : List PV} (hP : okP ty P) (h : P.length ≠ 0) {a b : PV} (ha : IsMn ty P a) (hb : IsMx ty P b) : bndB ty P = toldB ty a ++ toldB ty b := by
  have q := mn_is (ty := ty) (P := P) (fun i hi c => (hP.2 i hi).2 c) (P.length - 1) (by omega)
  rw [show P.length - 1 + 1 = P.length by omega, List.take_length] at q
  unfold bndB
  rw [if_neg h, q.1.un ha, q.2.un hb]
/-- texts of values are texts of entries -/
theorem oF_tx {E : List SEn} {md : Nat} : ∀ l : List Nat, oF (pvs E (vs E md l)) (pvs E (vs E md l)).length ≤ txI E l := by
  have key : ∀ (q : Nat) (l : List Nat), l.length = q → oF (pvs E (vs E md l)) (pvs E (vs E md l)).length ≤ txI E l := by
    intro q
    induction q with
    | zero =>
      intro l hl
      rw [List.length_eq_zero_iff.mp hl]
      exact Nat.le_refl _
    | succ q ihq =>
      intro l hl
      have hne : l ≠ [] := fun w => by rw [w] at hl; exact absurd hl (by simp)
      rw [← List.dropLast_concat_getLast hne]
      have ih3 := ihq l.dropLast (by rw [List.length_dropLast]; omega)
      rw [txI_app, vs_app]
      split
      · rw [pvs_app]
        have hh : (pvs E (vs E md l.dropLast) ++ [pvI E (l.getLast hne)]).length = (pvs E (vs E md l.dropLast)).length + 1 := by rw [List.length_append]; rfl
        rw [hh, oF_a2]
        show _ + (en E (l.getLast hne)).2.2.2.2.length ≤ _
        omega
      · rw [List.append_nil]; omega
  exact fun l => key _ l rfl
