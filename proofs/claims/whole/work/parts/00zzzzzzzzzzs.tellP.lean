/-! what is told of entries -/
def tlE (F : List SFd) (c : Nat) (C : List SEn) (W : List PV) : Tl := (C.length, C.length - (vlE (mdC F c) C).length, mnV (tyC F c) (vlE (mdC F c) C), mxV (tyC F c) (vlE (mdC F c) C), W)
section
variable {F : List SFd} {c : Nat} {C : List SEn} {W : List PV}
theorem vlE_ok (h : ∀ e, e ∈ C → okE F e ∧ e.1 = c) : ∀ v, v ∈ vlE (mdC F c) C → okPv (tyC F c) v := by
  intro v hv
  obtain ⟨e, h1, h2, h3⟩ := vlE_mem hv
  obtain ⟨o1, o2⟩ := h e h1
  have := o1.2.2.2.1
  rw [o2] at this
  rw [← h3]
  exact this h2
/-- an entry's value lies in what is told -/
theorem RwT_of (h : ∀ e, e ∈ C → okE F e ∧ e.1 = c) (hW : W ≠ [] → ∀ v, v ∈ vlE (mdC F c) C → v ∈ W) {j : Nat} (hj : j < C.length) : RwT (tyC F c) (tlE F c C W) (if (C.getD j en0).2.2.1 = mdC F c then some (C.getD j en0).2.2.2 else none) := by
  have hm : C.getD j en0 ∈ C := by
    rw [List.getD_eq_getElem?_getD, List.getElem?_eq_getElem hj]
    exact List.getElem_mem hj
  by_cases d : (C.getD j en0).2.2.1 = mdC F c
  · rw [if_pos d]
    refine And.intro (fun z => absurd z (by simp)) (fun p hp => ?_)
    injection hp with hp
    have pm : p ∈ vlE (mdC F c) C := by
      unfold vlE
      rw [← hp]
      exact List.mem_map.mpr ⟨_, List.mem_filter.mpr ⟨hm, decide_eq_true d⟩, rfl⟩
    have okV := vlE_ok h
    have vpos : 0 < (vlE (mdC F c) C).length := List.length_pos_of_mem pm
    obtain ⟨m1, m2⟩ := mn_all okV (by omega)
    refine ⟨?_, (okV p pm).v, (okV _ m1.1).v, (okV _ m2.1).v, m1.2 p pm, m2.2 p pm, fun z => hW z p pm⟩
    show C.length - (vlE (mdC F c) C).length < C.length
    omega
  · rw [if_neg d]
    refine And.intro (fun _ => ?_) (fun p hp => absurd hp (by simp))
    show 0 < C.length - (vlE (mdC F c) C).length
    have : (vlE (mdC F c) C).length < C.length := by
      unfold vlE
      rw [List.length_map]
      refine Nat.lt_of_le_of_ne (List.length_filter_le _ _) (fun z => ?_)
      have := List.length_filter_eq_length_iff.mp z _ hm
      exact d (of_decide_eq_true this)
    omega
/-- a least value of a list, as its own -/
theorem mn_un {V : List PV} {a : PV} (ok : ∀ v, v ∈ V → okPv (tyC F c) v) (h : IsMn (tyC F c) V a) : a = mnV (tyC F c) V := by
  have hne : V.length ≠ 0 := by have := List.length_pos_of_mem h.1; omega
  obtain ⟨m1, -⟩ := mn_all ok hne
  have k := ltV_tot (h.2 _ m1.1) (m1.2 _ h.1)
  have kk : ∀ v, v ∈ V → kv (tyC F c) v = v := by
    intro v hv
    have o := ok v hv
    unfold kv
    by_cases t : tyC F c = 3
    · rw [if_pos t]
      have := (o.1 t).2
      rw [← this]
    · rw [if_neg t]
      have := o.2.1 t
      rw [← this]
  rw [kk _ h.1, kk _ m1.1] at k
  first | exact k | exact k.symm
theorem mx_un {V : List PV} {a : PV} (ok : ∀ v, v ∈ V → okPv (tyC F c) v) (h : IsMx (tyC F c) V a) : a = mxV (tyC F c) V := by
  have hne : V.length ≠ 0 := by have := List.length_pos_of_mem h.1; omega
  obtain ⟨-, m2⟩ := mn_all ok hne
  have k := ltV_tot (h.2 _ m2.1) (m2.2 _ h.1)
  have kk : ∀ v, v ∈ V → kv (tyC F c) v = v := by
    intro v hv
    have o := ok v hv
    unfold kv
    by_cases t : tyC F c = 3
    · rw [if_pos t]
      have := (o.1 t).2
      rw [← this]
    · rw [if_neg t]
      have := o.2.1 t
      rw [← this]
  rw [kk _ h.1, kk _ m2.1] at k
  first | exact k | exact k.symm
end
