/-! the DICTIONARY of the class: filling, emptying, bytes -/
abbrev FD (s : Nat) (x y : St) : Prop := FX (fun o k => o = s ∧ (k = 1 ∨ k = 2 ∨ k = 5 ∨ k = 6)) no2 no2 (fun a => a = 65 ∨ a = 68 ∨ a = 69 ∨ a = stC s 4) (fun a => a = 66 ∨ a = 67) (fun o => o = s) x y
theorem FD.trans {s : Nat} {x y z : St} (hs : SnkId s) (h : FD s x y) (k : FD s y z) : FD s x z := FX.trans (fun _ _ => id) id (fun t e => by rw [e]; exact hs) h k
theorem FD.l {s : Nat} {x : St} {r : Nat} {i : Int32} {v : Int64} (h : r = 66 ∨ r = 67) : FD s x (setL x r i v) := by
  refine ⟨fun _ _ _ => rfl, fun _ _ _ => rfl, fun _ _ _ _ => rfl, fun _ _ _ _ => ⟨rfl, rfl⟩, fun a c => ?_, fun _ _ => rfl, fun t r a b => Or.inl ⟨t, a, b⟩⟩
  show (if a = r then _ else _) = _
  rw [if_neg (fun z => c (by rw [z]; exact h))]
theorem FD.a {s : Nat} {x : St} {r : Nat} {i v : Int32} (h : r = 65 ∨ r = 68 ∨ r = 69) : FD s x (setA x r i v) := by
  refine ⟨fun _ _ _ => rfl, fun _ _ _ => rfl, fun _ _ _ _ => rfl, fun a _ c _ => ⟨?_, rfl⟩, fun _ _ => rfl, fun _ _ => rfl, fun t r a b => Or.inl ⟨t, a, b⟩⟩
  show (if a = r then _ else _) = _
  rw [if_neg (fun z => c (by rw [z]; omega))]
theorem FD.c {s : Nat} {x y : St} (hs : SnkId s) (h : FD s x y) (e : fA y 68 = fA x 68) : FC s x y := by
  obtain ⟨h1, h2, h3, h4, h5, h6, h7⟩ := h
  refine ⟨h1, h2, h3, fun r a b c => ?_, h5, h6, h7⟩
  by_cases z : r = 68
  · subst z
    exact ⟨e, h6 68 (by decide)⟩
  · exact h4 r a (fun w => by rcases w with w | w | w | w; exact b (Or.inl w); exact z w; exact b (Or.inr (Or.inl w)); exact b (Or.inr (Or.inr w))) c
theorem fd42 {s : Nat} {x y : St} (hs : SnkId s) (hK : SkS x) (f : FD s x y) : fA y 42 = fA x 42 ∧ fN y 42 = fN x 42 := by
  refine f.2.2.2.1 42 (Or.inl (by decide)) ?_ (fun t e => by rw [e]; exact stRow_ne hs hK st42)
  rintro (z | z | z | z)
  · exact absurd z (by decide)
  · exact absurd z (by decide)
  · exact absurd z (by decide)
  · exact st42.2.2 s hs z
theorem PgC.d {s ty : Nat} {V : Nat → Int64} {P : List PV} {x y : St} (hs : SnkId s) (hK : SkS x) (f : FD s x y) (z : PgC x s ty V P) : PgC y s ty V P := by
  obtain ⟨z1, ⟨z5, z6, z7, z8⟩, z3, z4⟩ := z
  have h45 := (snk45 hs).1
  refine ⟨fun r hr => (f.2.2.2.2.2.1 r hr).trans (z1 r hr), ⟨(f.2.2.1 45 4 id (fun c => h45 c.1.symm)).trans z5, (f.2.2.1 45 6 id (fun c => h45 c.1.symm)).trans z6, ?_, fun k hk => ?_⟩, (f.1 45 12 (fun c => h45 c.1.symm)).trans z3, z4⟩
  · unfold RwL
    rw [show fN y 64 = fN x 64 from f.2.2.2.2.2.1 64 (by decide), show fL y 64 = fL x 64 from f.2.2.2.2.1 64 (by decide)]
    exact z7
  · have e := fd42 hs hK f
    have := z8 k hk
    unfold RfC at this ⊢
    rw [e.1, e.2]
    exact this
theorem ixF_app {a b : PV} : ∀ {l : List PV}, a ∈ l → ixF a (l ++ [b]) = ixF a l := by
  intro l
  induction l with
  | nil => intro h; exact absurd h (by simp)
  | cons c l ih =>
    intro h
    show (if c = a then 0 else ixF a (l ++ [b]) + 1) = (if c = a then 0 else ixF a l + 1)
    by_cases e : c = a
    · rw [if_pos e, if_pos e]
    · rw [if_neg e, if_neg e, ih (by rcases List.mem_cons.mp h with z | z; exact absurd z.symm e; exact z)]
theorem ixF_new {a : PV} : ∀ {l : List PV}, ¬ a ∈ l → ixF a (l ++ [a]) = l.length := by
  intro l
  induction l with
  | nil => intro h; show (if a = a then 0 else _) = 0; rw [if_pos rfl]
  | cons c l ih =>
    intro h
    show (if c = a then 0 else ixF a (l ++ [a]) + 1) = (c :: l).length
    rw [if_neg (fun z => h (by rw [z]; exact List.mem_cons_self)), ih (fun z => h (List.mem_cons_of_mem _ z)), List.length_cons]
theorem gm {f : Nat → PV} {G : List Nat} {d : Nat} (h : d < G.length) : (G.map f).getD d (0, []) = f (G.getD d 0) := by
  rw [List.getD_eq_getElem?_getD, List.getElem?_map, List.getD_eq_getElem?_getD, List.getElem?_eq_getElem h]
  rfl
theorem mem_gd {f : Nat → PV} {G : List Nat} {a : PV} : a ∈ G.map f ↔ ∃ d, d < G.length ∧ f (G.getD d 0) = a := by
  constructor
  · intro h
    obtain ⟨g, g1, g2⟩ := List.mem_map.mp h
    obtain ⟨d, hd, e⟩ := List.getElem_of_mem g1
    refine ⟨d, hd, ?_⟩
    rw [List.getD_eq_getElem?_getD, List.getElem?_eq_getElem hd]
    show f G[d] = a
    rw [e, g2]
  · rintro ⟨d, hd, e⟩
    refine List.mem_map.mpr ⟨G.getD d 0, ?_, e⟩
    rw [List.getD_eq_getElem?_getD, List.getElem?_eq_getElem hd]
    exact List.getElem_mem hd
theorem dI_len {ty : Nat} {P : List PV} : ∀ k, (dI ty P k).length ≤ k := by
  intro k
  induction k with
  | zero => exact Nat.le_refl _
  | succ k ih =>
    show (if _ then dI ty P k else dI ty P k ++ [k]).length ≤ k + 1
    split
    · omega
    · rw [List.length_append]; show _ + 1 ≤ _; omega
theorem gd_app1 {G : List Nat} {k d : Nat} (h : d < G.length) : (G ++ [k]).getD d 0 = G.getD d 0 := by
  rw [List.getD_eq_getElem?_getD, List.getElem?_append_left h, List.getD_eq_getElem?_getD]
theorem gd_app2 {G : List Nat} {k : Nat} : (G ++ [k]).getD G.length 0 = k := by
  rw [List.getD_eq_getElem?_getD, List.getElem?_append_right (Nat.le_refl _), Nat.sub_self]
  rfl
theorem nz {d : Nat} (h : d < 2000) : nI (d + 1) ≠ 0 := fun z => by
  have := congrArg uI z
  rw [uI_nI (by omega), show uI 0 = 0 from rfl] at this
  omega
theorem HT.cg {y z : St} {ty : Nat} {V : Nat → Int64} {P : List PV} {G : List Nat} (h : HT y ty V P G) (e1 : fL z 67 = fL y 67) (e2 : fA z 68 = fA y 68) (e3 : fA z 69 = fA y 69) : HT z ty V P G := by
  unfold HT
  rw [e1, e2, e3]
  exact h
theorem HT.add {y z : St} {ty : Nat} {V : Nat → Int64} {P : List PV} {G : List Nat} {k u j : Nat} (h : HT y ty V P G) (hk : k < P.length) (hm : G.length < 1000) (hu : u < 2048) (hn : ∀ d, d < G.length → kk ty P (G.getD d 0) ≠ kk ty P k) (h0 : fA y 68 u = 0) (hj : u = (hh ty (pvd P k) + j) % 2048) (hp : ∀ i, i < j → fA y 68 ((hh ty (pvd P k) + i) % 2048) ≠ 0)
    (e7 : ∀ i, fL z 67 i = if i = G.length then V k else fL y 67 i) (e9 : ∀ i, fA z 69 i = if i = G.length then nI u else fA y 69 i) (e8 : ∀ i, fA z 68 i = if i = u then nI (G.length + 1) else fA y 68 i) : HT z ty V P (G ++ [k]) := by
  obtain ⟨h1, h2, h3, h4, h5⟩ := h
  have hl : (G ++ [k]).length = G.length + 1 := by rw [List.length_append]; rfl
  have n0 : ∀ i, fA y 68 i ≠ 0 → fA z 68 i ≠ 0 := fun i hi => by
    rw [e8]
    split
    · exact nz (by omega)
    · exact hi
  have spl : ∀ d, d < (G ++ [k]).length → d < G.length ∨ d = G.length := fun d hd => by omega
  refine ⟨fun d hd => ?_, fun d hd => ?_, fun w hw => ?_, fun d e hd he hk2 => ?_, by omega⟩
  · rcases spl d hd with c | c
    · rw [gd_app1 c, e7, if_neg (by omega)]
      exact h1 d c
    · subst c
      rw [gd_app2, e7, if_pos rfl]
      exact ⟨hk, rfl⟩
  · rcases spl d hd with c | c
    · obtain ⟨w, w1, w2, w3, jd, w4, w5⟩ := h2 d c
      rw [gd_app1 c]
      refine ⟨w, w1, by rw [e9, if_neg (by omega)]; exact w2, ?_, jd, w4, fun i hi => n0 _ (w5 i hi)⟩
      rw [e8, if_neg (fun q => by rw [q, h0] at w3; exact nz (by omega) w3.symm)]
      exact w3
    · subst c
      rw [gd_app2]
      exact ⟨u, hu, by rw [e9, if_pos rfl], by rw [e8, if_pos rfl], j, hj, fun i hi => n0 _ (hp i hi)⟩
  · by_cases c : w = u
    · refine Or.inr ⟨G.length, by omega, by rw [e8, if_pos c], by rw [e9, if_pos rfl, c]⟩
    · rcases h3 w hw with q | ⟨d, q1, q2, q3⟩
      · exact Or.inl (by rw [e8, if_neg c]; exact q)
      · exact Or.inr ⟨d, by omega, by rw [e8, if_neg c]; exact q2, by rw [e9, if_neg (by omega)]; exact q3⟩
  · rcases spl d hd with c | c <;> rcases spl e he with c2 | c2
    · rw [gd_app1 c, gd_app1 c2] at hk2
      exact h4 d e c c2 hk2
    · subst c2
      rw [gd_app1 c, gd_app2] at hk2
      exact absurd hk2 (hn d c)
    · subst c
      rw [gd_app2, gd_app1 c2] at hk2
      exact absurd hk2.symm (hn e c2)
    · omega
