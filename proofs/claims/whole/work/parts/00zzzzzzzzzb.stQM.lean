/-! a query that is read, in the model -/
theorem q64 {s f : Nat} : 64 * nI s + nI f = nI (64 * s + f) := by rw [show (64 : Int32) = nI 64 from rfl, nI_mul, nI_add]
theorem q16 {s f : Nat} : 16 * nI s + nI f = nI (16 * s + f) := by rw [show (16 : Int32) = nI 16 from rfl, nI_mul, nI_add]
theorem q8 {s f : Nat} : 8 * nI s + nI f = nI (8 * s + f) := by rw [show (8 : Int32) = nI 8 from rfl, nI_mul, nI_add]
theorem q4 {s : Nat} : 4 * nI s = nI (4 * s) := by rw [show (4 : Int32) = nI 4 from rfl, nI_mul]
theorem q41 {s : Nat} : 4 * nI s + 1 = nI (4 * s + 1) := by rw [q4, nI_1]
theorem q42 {s : Nat} : 4 * nI s + 2 = nI (4 * s + 2) := by rw [q4, show (2 : Int32) = nI 2 from rfl, nI_add]
theorem q43 {s : Nat} : 4 * nI s + 3 = nI (4 * s + 3) := by rw [q4, show (3 : Int32) = nI 3 from rfl, nI_add]
def wq (a : Nat) : Nat := if a = 79 then 4 else if a ≤ 82 then 16 else if a = 83 then 8 else 64
def qK (b : Prop) (k : Nat) : Prop := k = 16 ∨ k = 17 ∨ k = 25 ∨ b ∧ (k = 139 ∨ k = 140)
def qA (b : Prop) (s a i : Nat) : Prop := a = 16 ∨ b ∧ (a = 94 ∨ a = 95) ∨ 79 ≤ a ∧ a ≤ 91 ∧ wq a * s ≤ i ∧ i < wq a * s + wq a
/-- nothing but the query in slot s has changed; b: the pile too -/
def FqM (b : Prop) (s : Nat) (x y : St) : Prop := (∀ o k, ¬ (o = 0 ∧ qK b k) → y.1 o k = x.1 o k) ∧ y.2.1 = x.2.1 ∧ y.2.2.1 = x.2.2.1 ∧ (∀ a i, ¬ qA b s a i → y.2.2.2.1 a i = x.2.2.2.1 a i) ∧ (∀ a i, ¬ (a = 93 ∧ 64 * s ≤ i ∧ i < 64 * s + 64) → y.2.2.2.2.1 a i = x.2.2.2.2.1 a i) ∧ y.2.2.2.2.2 = x.2.2.2.2.2
theorem FqM.refl (b : Prop) (s : Nat) (x : St) : FqM b s x x := ⟨fun _ _ _ => rfl, rfl, rfl, fun _ _ _ => rfl, fun _ _ _ => rfl, rfl⟩
theorem FqM.trans {b : Prop} {s : Nat} {x y z : St} (h : FqM b s x y) (k : FqM b s y z) : FqM b s x z :=
  ⟨fun o i c => (k.1 o i c).trans (h.1 o i c), k.2.1.trans h.2.1, k.2.2.1.trans h.2.2.1, fun a i c => (k.2.2.2.1 a i c).trans (h.2.2.2.1 a i c), fun a i c => (k.2.2.2.2.1 a i c).trans (h.2.2.2.2.1 a i c), k.2.2.2.2.2.trans h.2.2.2.2.2⟩
theorem FqM.up {b c : Prop} {s : Nat} {x y : St} (h : FqM b s x y) (hb : b → c) : FqM c s x y :=
  ⟨fun o i d => h.1 o i (fun z => d ⟨z.1, z.2.elim Or.inl (fun z => Or.inr (z.elim Or.inl (fun z => Or.inr (z.elim Or.inl (fun z => Or.inr ⟨hb z.1, z.2⟩)))))⟩), h.2.1, h.2.2.1, fun a i d => h.2.2.2.1 a i (fun z => d (z.elim Or.inl (fun z => Or.inr (z.elim (fun z => Or.inl ⟨hb z.1, z.2⟩) Or.inr)))), h.2.2.2.2⟩
theorem FqM.i {b : Prop} {s k : Nat} {x : St} {v : Int32} (h : qK b k) : FqM b s x (setI x 0 k v) := by
  refine ⟨fun o j c => ?_, rfl, rfl, fun _ _ _ => rfl, fun _ _ _ => rfl, rfl⟩
  show (if o = 0 ∧ j = k then v else x.1 o j) = _
  have q : ¬ (o = 0 ∧ j = k) := fun z => c ⟨z.1, by rw [z.2]; exact h⟩
  rw [if_neg q]
theorem FqM.a {b : Prop} {s a i : Nat} {x : St} {v : Int32} (hi : i < 2 ^ 31) (h : qA b s a i) : FqM b s x (setA x a (nI i) v) := by
  refine ⟨fun _ _ _ => rfl, rfl, rfl, fun c j d => ?_, fun _ _ _ => rfl, rfl⟩
  show (if c = a then upd (x.2.2.2.1 a) (nI i).toNatClampNeg v else x.2.2.2.1 c) j = _
  by_cases e : c = a
  · subst e
    have q : j ≠ i := fun z => d (by rw [z]; exact h)
    rw [if_pos rfl, nI_clamp hi, upd_ne q]
  · rw [if_neg e]
theorem FqM.l {b : Prop} {s i : Nat} {x : St} {v : Int64} (hi : i < 2 ^ 31) (h : 64 * s ≤ i ∧ i < 64 * s + 64) : FqM b s x (setL x 93 (nI i) v) := by
  refine ⟨fun _ _ _ => rfl, rfl, rfl, fun _ _ _ => rfl, fun c j d => ?_, rfl⟩
  show (if c = 93 then vp_updL (x.2.2.2.2.1 93) (nI i).toNatClampNeg v else x.2.2.2.2.1 c) j = _
  by_cases e : c = 93
  · subst e
    rw [if_pos rfl, nI_clamp hi]
    show (if j = i then v else _) = _
    have q : ¬ j = i := fun z => d ⟨rfl, by rw [z]; exact h⟩
    rw [if_neg q]
  · rw [if_neg e]
def SqI (c r0 r1 r2 : Nat → Int32) (s : Nat) (L : List QIt) : Prop := c (4 * s) = nI L.length ∧ L.length ≤ 16 ∧ ∀ i, i < L.length → r0 (16 * s + i) = (L.getD i (0, 0, 0)).1 ∧ r1 (16 * s + i) = (L.getD i (0, 0, 0)).2.1 ∧ r2 (16 * s + i) = nI (L.getD i (0, 0, 0)).2.2
def SqB (c r0 : Nat → Int32) (s : Nat) (L : List Nat) : Prop := c (4 * s + 1) = nI L.length ∧ L.length ≤ 8 ∧ ∀ i, i < L.length → r0 (8 * s + i) = nI (L.getD i 0)
def SqS (c r0 r1 r2 r3 r4 : Nat → Int32) (s : Nat) (L : List QSt) : Prop := c (4 * s + 2) = nI L.length ∧ L.length ≤ 64 ∧ ∀ i, i < L.length → r0 (64 * s + i) = (L.getD i (0, 0, 0, 0, 0)).1 ∧ r1 (64 * s + i) = (L.getD i (0, 0, 0, 0, 0)).2.1 ∧ r2 (64 * s + i) = (L.getD i (0, 0, 0, 0, 0)).2.2.1 ∧ r3 (64 * s + i) = (L.getD i (0, 0, 0, 0, 0)).2.2.2.1 ∧ r4 (64 * s + i) = (L.getD i (0, 0, 0, 0, 0)).2.2.2.2
def SqL (c r0 r1 r2 : Nat → Int32) (r3 : Nat → Int64) (s : Nat) (L : List QLt) : Prop := c (4 * s + 3) = nI L.length ∧ L.length ≤ 64 ∧ ∀ i, i < L.length → r0 (64 * s + i) = (L.getD i (0, 0, [])).1 ∧ r1 (64 * s + i) = nI (ltB (L.take i)).length ∧ r2 (64 * s + i) = nI (L.getD i (0, 0, [])).2.2.length ∧ r3 (64 * s + i) = (L.getD i (0, 0, [])).2.1
/-- slot s holds the query Q, but for its bytes -/
def SqM (x : St) (s : Nat) (Q : Qy) : Prop := SqI (fA x 79) (fA x 80) (fA x 81) (fA x 82) s Q.1 ∧ SqB (fA x 79) (fA x 83) s Q.2.1 ∧ SqS (fA x 79) (fA x 84) (fA x 85) (fA x 86) (fA x 87) (fA x 88) s Q.2.2.1 ∧ SqL (fA x 79) (fA x 89) (fA x 90) (fA x 91) (fL x 93) s Q.2.2.2
theorem gD_snoc {α : Type} {L : List α} {l d : α} {i : Nat} (h : i < (L ++ [l]).length) : (i < L.length ∧ (L ++ [l]).getD i d = L.getD i d) ∨ (i = L.length ∧ (L ++ [l]).getD i d = l) := by
  rw [List.length_append] at h
  have h : i < L.length + 1 := h
  by_cases c : i < L.length
  · refine Or.inl ⟨c, ?_⟩
    rw [List.getD_eq_getElem?_getD, List.getD_eq_getElem?_getD, List.getElem?_append_left c]
  · have e : i = L.length := by omega
    subst e
    refine Or.inr ⟨rfl, ?_⟩
    rw [List.getD_eq_getElem?_getD, List.getElem?_append_right (Nat.le_refl _), Nat.sub_self]
    rfl
theorem SqI.cg {c c' r0 r1 r2 : Nat → Int32} {s : Nat} {L : List QIt} (h : SqI c r0 r1 r2 s L) (e : c' (4 * s) = c (4 * s)) : SqI c' r0 r1 r2 s L := ⟨e.trans h.1, h.2⟩
theorem SqB.cg {c c' r0 : Nat → Int32} {s : Nat} {L : List Nat} (h : SqB c r0 s L) (e : c' (4 * s + 1) = c (4 * s + 1)) : SqB c' r0 s L := ⟨e.trans h.1, h.2⟩
theorem SqS.cg {c c' r0 r1 r2 r3 r4 : Nat → Int32} {s : Nat} {L : List QSt} (h : SqS c r0 r1 r2 r3 r4 s L) (e : c' (4 * s + 2) = c (4 * s + 2)) : SqS c' r0 r1 r2 r3 r4 s L := ⟨e.trans h.1, h.2⟩
theorem SqL.cg {c c' r0 r1 r2 : Nat → Int32} {r3 : Nat → Int64} {s : Nat} {L : List QLt} (h : SqL c r0 r1 r2 r3 s L) (e : c' (4 * s + 3) = c (4 * s + 3)) : SqL c' r0 r1 r2 r3 s L := ⟨e.trans h.1, h.2⟩
theorem SqI.add {c c' r0 r1 r2 r0' r1' r2' : Nat → Int32} {s : Nat} {L : List QIt} {l : QIt} (h : SqI c r0 r1 r2 s L) (hl : L.length ≠ 16) (e : c' (4 * s) = nI (L.length + 1)) (e0 : r0' = upd r0 (16 * s + L.length) l.1) (e1 : r1' = upd r1 (16 * s + L.length) l.2.1) (e2 : r2' = upd r2 (16 * s + L.length) (nI l.2.2)) : SqI c' r0' r1' r2' s (L ++ [l]) := by
  obtain ⟨h1, h2, h3⟩ := h
  subst e0 e1 e2
  refine ⟨by rw [e, List.length_append]; rfl, by rw [List.length_append]; show L.length + 1 ≤ 16; omega, fun i hi => ?_⟩
  rcases gD_snoc (d := ((0 : Int32), (0 : Int32), (0 : Nat))) hi with ⟨a, b⟩ | ⟨a, b⟩
  · rw [b, upd_ne (by omega), upd_ne (by omega), upd_ne (by omega)]
    exact h3 i a
  · rw [b, a, upd_at, upd_at, upd_at]
    exact ⟨rfl, rfl, rfl⟩
theorem SqB.add {c c' r0 r0' : Nat → Int32} {s : Nat} {L : List Nat} {l : Nat} (h : SqB c r0 s L) (hl : L.length ≠ 8) (e : c' (4 * s + 1) = nI (L.length + 1)) (e0 : r0' = upd r0 (8 * s + L.length) (nI l)) : SqB c' r0' s (L ++ [l]) := by
  obtain ⟨h1, h2, h3⟩ := h
  subst e0
  refine ⟨by rw [e, List.length_append]; rfl, by rw [List.length_append]; show L.length + 1 ≤ 8; omega, fun i hi => ?_⟩
  rcases gD_snoc (d := (0 : Nat)) hi with ⟨a, b⟩ | ⟨a, b⟩
  · rw [b, upd_ne (by omega)]
    exact h3 i a
  · rw [b, a, upd_at]
theorem SqS.add {c c' r0 r1 r2 r3 r4 r0' r1' r2' r3' r4' : Nat → Int32} {s : Nat} {L : List QSt} {l : QSt} (h : SqS c r0 r1 r2 r3 r4 s L) (hl : L.length ≠ 64) (e : c' (4 * s + 2) = nI (L.length + 1)) (e0 : r0' = upd r0 (64 * s + L.length) l.1) (e1 : r1' = upd r1 (64 * s + L.length) l.2.1) (e2 : r2' = upd r2 (64 * s + L.length) l.2.2.1) (e3 : r3' = upd r3 (64 * s + L.length) l.2.2.2.1) (e4 : r4' = upd r4 (64 * s + L.length) l.2.2.2.2) : SqS c' r0' r1' r2' r3' r4' s (L ++ [l]) := by
  obtain ⟨h1, h2, h3⟩ := h
  subst e0 e1 e2 e3 e4
  refine ⟨by rw [e, List.length_append]; rfl, by rw [List.length_append]; show L.length + 1 ≤ 64; omega, fun i hi => ?_⟩
  rcases gD_snoc (d := ((0 : Int32), (0 : Int32), (0 : Int32), (0 : Int32), (0 : Int32))) hi with ⟨a, b⟩ | ⟨a, b⟩
  · rw [b, upd_ne (by omega), upd_ne (by omega), upd_ne (by omega), upd_ne (by omega), upd_ne (by omega)]
    exact h3 i a
  · rw [b, a, upd_at, upd_at, upd_at, upd_at, upd_at]
    exact ⟨rfl, rfl, rfl, rfl, rfl⟩
theorem SqL.add {c c' r0 r1 r2 r0' r1' r2' : Nat → Int32} {r3 r3' : Nat → Int64} {s : Nat} {L : List QLt} {l : QLt} (h : SqL c r0 r1 r2 r3 s L) (hl : L.length ≠ 64) (e : c' (4 * s + 3) = nI (L.length + 1)) (e0 : r0' = upd r0 (64 * s + L.length) l.1) (e1 : r1' = upd r1 (64 * s + L.length) (nI (ltB L).length)) (e2 : r2' = upd r2 (64 * s + L.length) (nI l.2.2.length)) (e3 : r3' = vp_updL r3 (64 * s + L.length) l.2.1) : SqL c' r0' r1' r2' r3' s (L ++ [l]) := by
  obtain ⟨h1, h2, h3⟩ := h
  subst e0 e1 e2 e3
  refine ⟨by rw [e, List.length_append]; rfl, by rw [List.length_append]; show L.length + 1 ≤ 64; omega, fun i hi => ?_⟩
  have un : ∀ j v, j ≠ 64 * s + L.length → vp_updL r3 (64 * s + L.length) v j = r3 j := fun j v z => by show (if _ then _ else _) = _; rw [if_neg z]
  have ua : ∀ v, vp_updL r3 (64 * s + L.length) v (64 * s + L.length) = v := fun v => by show (if _ then _ else _) = _; rw [if_pos rfl]
  rcases gD_snoc (d := ((0 : Int32), (0 : Int64), ([] : List Int32))) hi with ⟨a, b⟩ | ⟨a, b⟩
  · rw [b, upd_ne (by omega), upd_ne (by omega), upd_ne (by omega), un _ _ (by omega), List.take_append_of_le_length (by omega)]
    exact h3 i a
  · rw [b, a, upd_at, upd_at, upd_at, ua, List.take_left']
    · exact ⟨rfl, rfl, rfl, rfl⟩
    · rfl
/-- what stays while a query is read -/
def BsM (x : St) (T : Nat → Int32) (n : Nat) (F : List SFd) (s : Nat) : Prop := TxM x T n ∧ n ≤ 2000 ∧ LM x ∧ WfS F ∧ RepM x 1 F ∧ fI x 0 118 = nI s ∧ s < 3
theorem BsM.fq {b : Prop} {x y : St} {T : Nat → Int32} {n s : Nat} {F : List SFd} (h : BsM x T n F s) (f : FqM b s x y) : BsM y T n F s := by
  obtain ⟨h1, h2, h3, h4, h5, h6, h7⟩ := h
  obtain ⟨f1, f2, f3, f4, f5, f6⟩ := f
  have ra : ∀ a, a < 79 → a ≠ 16 → fA y a = fA x a := fun a c d => funext (fun i => f4 a i (fun z => by
    rcases z with z | z | z
    · omega
    · obtain ⟨-, z⟩ := z; omega
    · omega))
  refine ⟨⟨?_, h1.2.1, ?_, ?_⟩, h2, ?_, h4, ?_, ?_, h7⟩
  · rw [← h1.1]
    exact f1 0 15 (fun z => by unfold qK at z; omega)
  · rw [← h1.2.2.1]
    exact congrFun f6 2
  · rw [ra 2 (by decide) (by decide)]
    exact h1.2.2.2
  · intro o
    rw [← h3 o]
    exact congrFun f6 o
  · unfold RepM at *
    rw [ra 9 (by decide) (by decide), ra 10 (by decide) (by decide), ra 3 (by decide) (by decide), ra 4 (by decide) (by decide), ra 5 (by decide) (by decide), ra 7 (by decide) (by decide), ra 8 (by decide) (by decide), ra 6 (by decide) (by decide), ra 11 (by decide) (by decide)]
    exact h5
  · rw [← h6]
    exact f1 0 118 (fun z => by unfold qK at z; omega)
/-- all is well so far -/
def GdM (b : Prop) (n s : Nat) (x y : St) (k : Nat) (Q : Qy) : Prop := FqM b s x y ∧ fI y 0 17 = -1 ∧ fI y 0 16 = nI k ∧ k ≤ n ∧ SqM y s Q ∧ fI y 0 25 = nI (ltB Q.2.2.2).length ∧ (∀ i, i < (ltB Q.2.2.2).length → fA y 16 i = (ltB Q.2.2.2).getD i 0) ∧ (ltB Q.2.2.2).length ≤ k
/-- a fault was found -/
def FfM (b : Prop) (s : Nat) (x y : St) (e : Int32) : Prop := FqM b s x y ∧ fI y 0 17 = e ∧ ∃ j, fI y 0 16 = nI j ∧ j ≤ 3000
def RqM (b : Prop) (n s : Nat) (x : St) (r : QR) (y : St) : Prop := if r.1 = -1 then GdM b n s x y r.2.1 r.2.2 else FfM b s x y r.1
