/-- a new row of bytes with a new number -/
theorem va_P.kept' {D : va_G} {cl : List vw_C} {ws : va_W} {H H1 : Heap} {ad : Nat} (h : va_P D cl ws H) (h1 : ∀ a : Nat, a < H.size → a ≠ ad → H1[a]? = H[a]?) (h2 : ∀ (k : Nat) (e : va_E), ws[k]? = some (ad, e) → va_at D cl (ad, e) H1) : va_P D cl ws H1 := by
  intro k q hq
  by_cases e : q.1 = ad
  · obtain ⟨a, b⟩ := q
    have e : a = ad := e
    subst e
    exact h2 k b hq
  · exact (h k q hq).kept (h1 q.1 (h k q hq).lt e)
section Grow
variable {dC : Nat → ClassId} {dI : Nat → Nat → Nat} {cI cB cJ cZ : ClassId} {ad : Nat → Nat} {st : Nat → Nat → Nat} {kc : Nat → Nat} {NN : Nat} {A : Nat → Prop} {x : St} {H H1 : Heap} {o q N : Nat} {f : Nat → Int32}
theorem fl_grow {j t : Nat} (hj : j < NN) (hk : kc j = t) (hst : ∀ o k : Nat, o < NN → fk (kc o) k = 3 → st o k < NN) (hW : WT kc NN x) (hfk : ∀ k, fk t k < 4) : fl (fun k => if k = NN then q else ad k) st t (addRow x NN N f) j = fl ad st t x j := by
  unfold fl
  apply List.map_congr_left
  intro k _
  have h4 := hfk k
  rcases (show fk t k = 0 ∨ fk t k = 1 ∨ fk t k = 2 ∨ fk t k = 3 by omega) with h | h | h | h
  · rw [h]; rfl
  · rw [h]; rfl
  · rw [h]
    show (match x.2.2.1 j k with | none => Value.null | some b => .ref (if b = NN then q else ad b)) = (match x.2.2.1 j k with | none => Value.null | some b => .ref (ad b))
    cases e : x.2.2.1 j k with
    | none => rfl
    | some b =>
      have hb := (hW j k b hj (by rw [hk]; exact h) e).1
      show Value.ref (if b = NN then q else ad b) = .ref (ad b)
      rw [if_neg (Nat.ne_of_lt hb)]
  · rw [h]
    show Value.ref (if st j k = NN then q else ad (st j k)) = .ref (ad (st j k))
    rw [if_neg (Nat.ne_of_lt (hst j k hj (by rw [hk]; exact h)))]
theorem ent_grow {j : Nat} (hj : j < NN) (hst : ∀ o k : Nat, o < NN → fk (kc o) k = 3 → st o k < NN) (hW : WT kc NN x) (hfk : ∀ t k, fk t k < 4) : ent (fun k => if k = NN then q else ad k) st cI cB cJ cZ (kc j) (addRow x NN N f) j = ent ad st cI cB cJ cZ (kc j) x j := by
  unfold ent
  rw [fl_grow hj rfl hst hW (hfk _)]
  have e1 : (addRow x NN N f).2.2.2.1 j = x.2.2.2.1 j := by show (if j = NN then _ else _) = _; rw [if_neg (Nat.ne_of_lt hj)]
  have e2 : (addRow x NN N f).2.2.2.2.2 j = x.2.2.2.2.2 j := by show (if j = NN then _ else _) = _; rw [if_neg (Nat.ne_of_lt hj)]
  rw [e1, e2]
  rfl
theorem pic_grow (hkn : kc NN = 21) (hst : ∀ o k : Nat, o < NN → fk (kc o) k = 3 → st o k < NN) (hW : WT kc NN x) (hfk : ∀ t k, fk t k < 4) : pic (fun k => if k = NN then q else ad k) st kc (NN + 1) cI cB cJ cZ (addRow x NN N f) = pic ad st kc NN cI cB cJ cZ x ++ [(q, .inl (cB, N, .inl f))] := by
  unfold pic
  rw [List.range_succ, List.map_append]
  congr 1
  · apply List.map_congr_left
    intro j hj
    have hj := List.mem_range.mp hj
    show ((if j = NN then q else ad j), _) = (ad j, _)
    rw [if_neg (Nat.ne_of_lt hj), ent_grow hj hst hW hfk]
  · show [((if NN = NN then q else ad NN), ent _ st cI cB cJ cZ (kc NN) (addRow x NN N f) NN)] = _
    rw [if_pos rfl, hkn]
    show [(q, (Sum.inl (cB, (if NN = NN then N else x.2.2.2.2.2 NN), Sum.inl (if NN = NN then f else x.2.2.2.1 NN)) : va_E))] = _
    rw [if_pos rfl, if_pos rfl]
/-- the world with a new row behind a call that made it -/
theorem Wd.grow (h : Wd dC dI cI cB cJ cZ ad st kc NN A x H) (ho : o < NN) (hko : kc o = 21) (hkn : kc NN = 21) (hst : ∀ o k : Nat, o < NN → fk (kc o) k = 3 → st o k < NN) (hfk : ∀ t k, fk t k < 4)
    (hP1 : va_P (dC, dI) CL [(ad o, .inl (cB, fN x o, .inl (fA x o))), (q, .inl (cB, N, .inl f))] H1) (hD1 : va_D (va_A [(ad o, .inl (cB, fN x o, .inl (fA x o)))] H.size) [(ad o, .inl (cB, fN x o, .inl (fA x o))), (q, .inl (cB, N, .inl f))])
    (hk : ∀ a : Nat, a < H.size → ¬ va_A [(ad o, .inl (cB, fN x o, .inl (fA x o)))] H.size a → H1[a]? = H[a]?) (hF : ∀ a : Nat, va_A [(ad o, .inl (cB, fN x o, .inl (fA x o)))] H.size a → A a) :
    Wd dC dI cI cB cJ cZ (fun k => if k = NN then q else ad k) st kc (NN + 1) A (addRow x NN N f) H1 := by
  have hq : H.size ≤ q := by
    rcases hD1.2 1 _ rfl with ⟨k, e, z⟩ | z
    · exfalso
      match k, z with
      | 0, z =>
        have e1 : ad o = q := congrArg Prod.fst (Option.some.inj z)
        have := hD1.1 0 1 _ _ rfl rfl e1
        exact absurd this (by decide)
      | k + 1, z => simp at z
    · exact z
  have hwt : WT kc (NN + 1) (addRow x NN N f) := by
    intro a k b ha hf hb
    rcases Nat.lt_or_ge a NN with z | z
    · have := h.2.2 a k b z hf hb
      exact ⟨Nat.lt_succ_of_lt this.1, this.2⟩
    · have ea : a = NN := by omega
      rw [ea, hkn, show fk 21 k = 0 from rfl] at hf
      exact absurd hf (by decide)
  refine ⟨?_, ?_, hwt⟩
  · rw [pic_grow hkn hst h.2.2 hfk]
    refine va_P.app (h.1.kept' (ad := ad o) ?_ ?_) (fun k z hz => ?_)
    · exact fun a ha hne => hk a ha (fun y => by
        rcases y with ⟨k, e, y⟩ | y
        · match k, y with
          | 0, y => exact hne (congrArg Prod.fst (Option.some.inj y)).symm
          | k + 1, y => simp at y
        · omega)
    · intro k e hz
      have hi := hP1 0 _ rfl
      have h0 := pic_byte (ad := ad) (st := st) (kc := kc) (NN := NN) (cI := cI) (cB := cB) (cJ := cJ) (cZ := cZ) (x := x) ho hko
      have ek := h.2.1.1 k o _ _ hz h0 rfl
      subst ek
      rw [h0] at hz
      have e2 := Option.some.inj hz
      rw [← e2]
      exact hi
    · match k, hz with
      | 0, hz =>
        have e2 := Option.some.inj hz
        rw [← e2]
        exact hP1 1 _ rfl
      | k + 1, hz => simp at hz
  · rw [pic_grow hkn hst h.2.2 hfk]
    refine va_D.app h.2.1 ⟨fun i j a b hi hj _ => ?_, fun k z hz => ?_⟩ (fun i j a b hi hj e => ?_)
    · match i, hi, j, hj with
      | 0, _, 0, _ => rfl
      | i + 1, hi, _, _ => simp at hi
      | _, _, j + 1, hj => simp at hj
    · match k, hz with
      | 0, hz =>
        have e2 := Option.some.inj hz
        rw [← e2]
        exact hF q (Or.inr hq)
      | k + 1, hz => simp at hz
    · match j, hj with
      | 0, hj =>
        have e2 := Option.some.inj hj
        have hlt := (h.1 i a hi).lt
        rw [e, ← e2] at hlt
        exact absurd hlt (Nat.not_lt.mpr hq)
      | j + 1, hj => simp at hj
end Grow
theorem fk4 : ∀ t k, fk t k < 4 := by
  intro t k
  have h : ∀ l ∈ fkT, ∀ v ∈ l, v < 4 := by decide +kernel
  unfold fk
  rw [List.getD_eq_getElem?_getD, List.getD_eq_getElem?_getD]
  cases h1 : fkT[t]? with
  | none => show ([] : List Nat)[k]?.getD 0 < 4; simp
  | some l =>
    show l[k]?.getD 0 < 4
    cases h2 : l[k]? with
    | none => show (0 : Nat) < 4; decide
    | some v => exact h l (List.mem_of_getElem? h1) v (List.mem_of_getElem? h2)
theorem kc_kinds : ∀ o, o < 152 → kcC o < 12 ∨ (13 ≤ kcC o ∧ kcC o < 24) := by decide +kernel
theorem st_lt {NN : Nat} (hNN : 152 ≤ NN) : ∀ o k : Nat, o < NN → fk (kcC o) k = 3 → stC o k < NN := by
  intro o k h hf
  have hno : ∀ t, 13 ≤ t → fk t k = 0 := by
    intro t ht
    unfold fk
    rw [List.getD_eq_getElem?_getD, List.getD_eq_getElem?_getD, List.getElem?_eq_none (Nat.le_trans (show fkT.length ≤ 13 by decide) ht)]
    simp
  rcases Nat.lt_or_ge o 152 with q | q
  · rcases kc_kinds o q with z | z
    · exact Nat.lt_of_lt_of_le (st_all o q k (fk_small hf z) hf).1 hNN
    · rw [hno _ z.1] at hf; exact absurd hf (by decide)
  · rw [kc_new q, hno 21 (by decide)] at hf; exact absurd hf (by decide)
section One
variable {dC : Nat → ClassId} {dI : Nat → Nat → Nat} {cI cB cJ cZ : ClassId} {ad : Nat → Nat} {st : Nat → Nat → Nat} {kc : Nat → Nat} {NN : Nat} {A : Nat → Prop} {x : St} {H0 H : Heap} {locs : List Loc} {o : Nat}
theorem Wd.one (h : Wd dC dI cI cB cJ cZ ad st kc NN A x H) (ho : o < NN) (hk : kc o = 21) : va_P (dC, dI) CL [(ad o, .inl (cB, fN x o, .inl (fA x o)))] H ∧ va_D A [(ad o, .inl (cB, fN x o, .inl (fA x o)))] := by
  have h0 := pic_byte (ad := ad) (st := st) (kc := kc) (NN := NN) (cI := cI) (cB := cB) (cJ := cJ) (cZ := cZ) (x := x) ho hk
  refine ⟨fun k q hq => ?_, fun i j a b hi hj _ => ?_, fun k q hq => ?_⟩
  · match k, hq with
    | 0, hq => have e2 := Option.some.inj hq; rw [← e2]; exact h.1 o _ h0
    | k + 1, hq => simp at hq
  · match i, hi, j, hj with
    | 0, _, 0, _ => rfl
    | i + 1, hi, _, _ => simp at hi
    | _, _, j + 1, hj => simp at hj
  · match k, hq with
    | 0, hq => have e2 := Option.some.inj hq; rw [← e2]; exact h.2.1.2 o _ h0
    | k + 1, hq => simp at hq
theorem Wd.freeOne (h : Wd dC dI cI cB cJ cZ ad st kc NN A x H) (hS : va_S A H0 H locs) (hA : ∀ q : Nat, H0.size ≤ q → A q) (ho : o < NN) (hk : kc o = 21) : ∀ q : Nat, va_A [(ad o, .inl (cB, fN x o, .inl (fA x o)))] H.size q → A q := by
  intro q z
  rcases z with ⟨k, e, z⟩ | z
  · exact (h.one ho hk).2.2 k _ z
  · exact hA q (Nat.le_trans hS.1 z)
end One
