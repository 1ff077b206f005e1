/-! a query that is read, in the class -/
def QId (o : Nat) : Prop := o = 106 ∨ o = 117
theorem stq {o : Nat} (h : QId o) : stC o 2 = o + 1 ∧ stC o 3 = o + 2 ∧ stC o 4 = o + 3 ∧ stC o 6 = o + 4 ∧ stC o 9 = o + 5 ∧ stC o 10 = o + 6 ∧ stC o 11 = o + 7 ∧ stC o 12 = o + 8 ∧ stC o 14 = o + 9 ∧ stC o 16 = o + 10 := by
  rcases h with e | e <;> subst e <;> decide
theorem QId.len {x : St} {o : Nat} (h : QId o) (hL : LC x) : fN x (o + 1) = 16 ∧ fN x (o + 2) = 16 ∧ fN x (o + 3) = 16 ∧ fN x (o + 4) = 8 ∧ fN x (o + 5) = 64 ∧ fN x (o + 6) = 64 ∧ fN x (o + 7) = 64 ∧ fN x (o + 8) = 64 ∧ fN x (o + 9) = 64 ∧ fN x (o + 10) = 2255 := by
  rcases h with e | e <;> subst e
  · exact ⟨hL 107 (by decide), hL 108 (by decide), hL 109 (by decide), hL 110 (by decide), hL 111 (by decide), hL 112 (by decide), hL 113 (by decide), hL 114 (by decide), hL 115 (by decide), hL 116 (by decide)⟩
  · exact ⟨hL 118 (by decide), hL 119 (by decide), hL 120 (by decide), hL 121 (by decide), hL 122 (by decide), hL 123 (by decide), hL 124 (by decide), hL 125 (by decide), hL 126 (by decide), hL 127 (by decide)⟩
/-- nothing but the query o and the scan has changed; b: items and paths too -/
abbrev FqC (b : Prop) (o : Nat) (x y : St) : Prop := Fg (fun a k => a = 10 ∨ a = o ∧ (k = 8 ∨ k = 13 ∨ k = 15 ∨ k = 19 ∨ b ∧ (k = 1 ∨ k = 5 ∨ k = 7))) (fun a _ => a = 10) no2 (fun a => o + 5 ≤ a ∧ a ≤ o + 10 ∨ b ∧ (o + 1 ≤ a ∧ a ≤ o + 4)) (fun a => a = o + 9) x y
def cop (v : Int32) : Int32 := if v = 3 then 5 else if v = 5 then 3 else v
def colI (F : List SFd) (v : Int32) : Int32 := nI (ncol (F.take v.toNatClampNeg))
/-- a step as the class keeps it -/
def clS (F : List SFd) (s : QSt) : Int32 × Int32 × Int32 × Int32 :=
  if s.1 = 0 then (6, colI F s.2.1, 0, 0) else if s.1 = 1 then (7, colI F s.2.1, 0, 0)
  else if s.1 = 2 then (8, colI F s.2.1, s.2.2.2.1, s.2.2.2.2)
  else if s.1 = 3 then (cop s.2.2.1, colI F s.2.1, s.2.2.2.1, 1)
  else if s.1 = 4 then (cop s.2.2.1, colI F s.2.1, colI F s.2.2.2.1, 0)
  else if s.1 = 5 then (9, 0, 0, 0) else if s.1 = 6 then (10, 0, 0, 0) else (11, 0, 0, 0)
/-- a literal as the class keeps it, its bytes from a on -/
def clL (a : Nat) (l : QLt) : Int64 := if l.1 = 3 then lN (256 * a + l.2.2.length) else l.2.1
def CqI (v : Int32) (r0 r1 r2 : Nat → Int32) (L : List QIt) : Prop := v = nI L.length ∧ L.length ≤ 16 ∧ ∀ i, i < L.length → r0 i = (L.getD i (0, 0, 0)).1 ∧ r1 i = (L.getD i (0, 0, 0)).2.1 ∧ r2 i = nI (L.getD i (0, 0, 0)).2.2
def CqB (v : Int32) (r0 : Nat → Int32) (L : List Nat) : Prop := v = nI L.length ∧ L.length ≤ 8 ∧ ∀ i, i < L.length → r0 i = nI (L.getD i 0)
def CqS (F : List SFd) (v : Int32) (r0 r1 r2 r3 : Nat → Int32) (L : List QSt) : Prop := v = nI L.length ∧ L.length ≤ 64 ∧ ∀ i, i < L.length → r0 i = (clS F (L.getD i (0, 0, 0, 0, 0))).1 ∧ r1 i = (clS F (L.getD i (0, 0, 0, 0, 0))).2.1 ∧ r2 i = (clS F (L.getD i (0, 0, 0, 0, 0))).2.2.1 ∧ r3 i = (clS F (L.getD i (0, 0, 0, 0, 0))).2.2.2
def CqL (v w : Int32) (r0 : Nat → Int64) (r1 : Nat → Int32) (L : List QLt) : Prop := v = nI L.length ∧ L.length ≤ 64 ∧ w = nI (ltB L).length ∧ (∀ i, i < L.length → r0 i = clL (ltB (L.take i)).length (L.getD i lt0)) ∧ ∀ i, i < (ltB L).length → r1 i = ((ltB L).getD i 0).toInt8.toInt32
/-- the object o holds the query Q -/
def SqC (F : List SFd) (x : St) (o : Nat) (Q : Qy) : Prop := CqI (fI x o 1) (fA x (o + 1)) (fA x (o + 2)) (fA x (o + 3)) Q.1 ∧ CqB (fI x o 5) (fA x (o + 4)) Q.2.1 ∧ CqS F (fI x o 8) (fA x (o + 5)) (fA x (o + 6)) (fA x (o + 7)) (fA x (o + 8)) Q.2.2.1 ∧ CqL (fI x o 13) (fI x o 15) (fL x (o + 9)) (fA x (o + 10)) Q.2.2.2
theorem CqI.add {v : Int32} {r0 r1 r2 r0' r1' r2' : Nat → Int32} {L : List QIt} {l : QIt} (h : CqI v r0 r1 r2 L) (hl : L.length < 16) (e0 : r0' = upd r0 L.length l.1) (e1 : r1' = upd r1 L.length l.2.1) (e2 : r2' = upd r2 L.length (nI l.2.2)) : CqI (nI (L.length + 1)) r0' r1' r2' (L ++ [l]) := by
  obtain ⟨h1, h2, h3⟩ := h
  subst e0 e1 e2
  refine ⟨by rw [List.length_append]; rfl, by rw [List.length_append]; show L.length + 1 ≤ 16; omega, fun i hi => ?_⟩
  rcases gD_snoc (d := ((0 : Int32), (0 : Int32), (0 : Nat))) hi with ⟨a, b⟩ | ⟨a, b⟩
  · rw [b, upd_ne (by omega), upd_ne (by omega), upd_ne (by omega)]
    exact h3 i a
  · rw [b, a, upd_at, upd_at, upd_at]
    exact ⟨rfl, rfl, rfl⟩
theorem CqB.add {v : Int32} {r0 r0' : Nat → Int32} {L : List Nat} {l : Nat} (h : CqB v r0 L) (hl : L.length < 8) (e0 : r0' = upd r0 L.length (nI l)) : CqB (nI (L.length + 1)) r0' (L ++ [l]) := by
  obtain ⟨h1, h2, h3⟩ := h
  subst e0
  refine ⟨by rw [List.length_append]; rfl, by rw [List.length_append]; show L.length + 1 ≤ 8; omega, fun i hi => ?_⟩
  rcases gD_snoc (d := (0 : Nat)) hi with ⟨a, b⟩ | ⟨a, b⟩
  · rw [b, upd_ne (by omega)]
    exact h3 i a
  · rw [b, a, upd_at]
theorem CqS.add {F : List SFd} {v : Int32} {r0 r1 r2 r3 r0' r1' r2' r3' : Nat → Int32} {L : List QSt} {l : QSt} (h : CqS F v r0 r1 r2 r3 L) (hl : L.length < 64) (e0 : r0' = upd r0 L.length (clS F l).1) (e1 : r1' = upd r1 L.length (clS F l).2.1) (e2 : r2' = upd r2 L.length (clS F l).2.2.1) (e3 : r3' = upd r3 L.length (clS F l).2.2.2) : CqS F (nI (L.length + 1)) r0' r1' r2' r3' (L ++ [l]) := by
  obtain ⟨h1, h2, h3⟩ := h
  subst e0 e1 e2 e3
  refine ⟨by rw [List.length_append]; rfl, by rw [List.length_append]; show L.length + 1 ≤ 64; omega, fun i hi => ?_⟩
  rcases gD_snoc (d := ((0 : Int32), (0 : Int32), (0 : Int32), (0 : Int32), (0 : Int32))) hi with ⟨a, b⟩ | ⟨a, b⟩
  · rw [b, upd_ne (by omega), upd_ne (by omega), upd_ne (by omega), upd_ne (by omega)]
    exact h3 i a
  · rw [b, a, upd_at, upd_at, upd_at, upd_at]
    exact ⟨rfl, rfl, rfl, rfl⟩
theorem CqL.add {v w : Int32} {r0 r0' : Nat → Int64} {r1 r1' : Nat → Int32} {L : List QLt} {l : QLt} (h : CqL v w r0 r1 L) (hl : L.length < 64) (e0 : r0' = vp_updL r0 L.length (clL (ltB L).length l)) (e1 : ∀ i, i < (ltB L).length → r1' i = r1 i) (e2 : ∀ i, i < l.2.2.length → r1' ((ltB L).length + i) = (l.2.2.getD i 0).toInt8.toInt32) : CqL (nI (L.length + 1)) (nI ((ltB L).length + l.2.2.length)) r0' r1' (L ++ [l]) := by
  obtain ⟨h1, h2, h3, h4, h5⟩ := h
  subst e0
  refine ⟨by rw [List.length_append]; rfl, by rw [List.length_append]; show L.length + 1 ≤ 64; omega, by rw [ltB_snoc, List.length_append], fun i hi => ?_, fun i hi => ?_⟩
  · have un : ∀ j v, j ≠ L.length → vp_updL r0 L.length v j = r0 j := fun j v z => by show (if _ then _ else _) = _; rw [if_neg z]
    have ua : ∀ v, vp_updL r0 L.length v L.length = v := fun v => by show (if _ then _ else _) = _; rw [if_pos rfl]
    rcases gD_snoc (d := lt0) hi with ⟨a, b⟩ | ⟨a, b⟩
    · rw [b, un _ _ (by omega), List.take_append_of_le_length (by omega)]
      exact h4 i a
    · rw [b, a, ua, List.take_left']
      rfl
  · rw [ltB_snoc] at hi ⊢
    rw [List.length_append] at hi
    by_cases c : i < (ltB L).length
    · rw [e1 i c, gD_left c]
      exact h5 i c
    · have := e2 (i - (ltB L).length) (by omega)
      rw [show (ltB L).length + (i - (ltB L).length) = i by omega] at this
      rw [this, gD_right (by omega)]
/-- what stays while a query is read -/
def BsC (x : St) (q n : Nat) (F : List SFd) (o : Nat) : Prop := n ≤ 2000 ∧ LC x ∧ WfS F ∧ RepC x 70 F ∧ fR x o 17 = some 10 ∧ fR x o 18 = some 70 ∧ QId o ∧ (q < 106 ∨ 128 ≤ q)
theorem BsC.fq {b : Prop} {x y : St} {q n o : Nat} {F : List SFd} (h : BsC x q n F o) (f : FqC b o x y) : BsC y q n F o := by
  obtain ⟨h1, h2, h3, h4, h5, h6, h7, h8⟩ := h
  obtain ⟨f1, f2, f3, f4, f5, f6⟩ := f
  have ho : 106 ≤ o ∧ o ≤ 117 := by rcases h7 with e | e <;> omega
  have ra : ∀ a, a < 106 → fA y a = fA x a := fun a c => f4 a (fun z => by
    rcases z with z | ⟨-, z⟩ <;> omega)
  refine ⟨h1, fun r hr => ?_, h3, ?_, ?_, ?_, h7, h8⟩
  · rw [← h2 r hr]; exact congrFun f6 r
  · unfold RepC at *
    have e0 : ∀ k, fI y 70 k = fI x 70 k := fun k => f1 70 k (fun z => by rcases z with z | ⟨z, -⟩ <;> omega)
    have r2 : fA y (stC 70 2) = fA x (stC 70 2) := ra 71 (by decide)
    have r3 : fA y (stC 70 3) = fA x (stC 70 3) := ra 72 (by decide)
    have r4 : fA y (stC 70 4) = fA x (stC 70 4) := ra 73 (by decide)
    have r5 : fA y (stC 70 5) = fA x (stC 70 5) := ra 74 (by decide)
    have r6 : fA y (stC 70 6) = fA x (stC 70 6) := ra 75 (by decide)
    have r7 : fA y (stC 70 7) = fA x (stC 70 7) := ra 76 (by decide)
    have r8 : fA y (stC 70 8) = fA x (stC 70 8) := ra 77 (by decide)
    have r9 : fA y (stC 70 9) = fA x (stC 70 9) := ra 78 (by decide)
    have r10 : fA y (stC 70 10) = fA x (stC 70 10) := ra 79 (by decide)
    have r11 : fA y (stC 70 11) = fA x (stC 70 11) := ra 80 (by decide)
    have r12 : fA y (stC 70 12) = fA x (stC 70 12) := ra 81 (by decide)
    rw [e0, e0, r2, r3, r4, r5, r6, r7, r8, r9, r10, r11, r12]
    exact h4
  · rw [← h5]; exact f3 o 17 (fun z => z)
  · rw [← h6]; exact f3 o 18 (fun z => z)
def GdC (b : Prop) (q : Nat) (T : Nat → Int32) (n : Nat) (F : List SFd) (o : Nat) (x y : St) (k : Nat) (Q : Qy) : Prop := FqC b o x y ∧ ScC y q T n k (-1) ∧ SqC F y o Q ∧ (ltB Q.2.2.2).length ≤ k
def FfC (b : Prop) (q : Nat) (T : Nat → Int32) (n o : Nat) (x y : St) (e : Int32) : Prop := FqC b o x y ∧ ∃ j, ScC y q T n j e
def RqC (b : Prop) (q : Nat) (T : Nat → Int32) (n : Nat) (F : List SFd) (o : Nat) (x : St) (r : QR) (y : St) : Prop := if r.1 = -1 then GdC b q T n F o x y r.2.1 r.2.2 else FfC b q T n o x y r.1
section
variable {b : Prop} {q n o : Nat} {T : Nat → Int32} {F : List SFd} {x y z : St} {r : QR} {Q : Qy} {k k' : Nat}
theorem RqC.good (h : GdC b q T n F o x y k Q) : RqC b q T n F o x (-1, k, Q) y := by
  unfold RqC
  rw [if_pos rfl]
  exact h
theorem RqC.gd (h : RqC b q T n F o x r y) (hr : r.1 = -1) : GdC b q T n F o x y r.2.1 r.2.2 := by
  unfold RqC at h
  rw [if_pos hr] at h
  exact h
theorem RqC.ft (h : RqC b q T n F o x r y) (hr : ¬ r.1 = -1) : FfC b q T n o x y r.1 := by
  unfold RqC at h
  rw [if_neg hr] at h
  exact h
theorem FfC.rs {e : Int32} (h : FfC b q T n o x y e) (he : ¬ e = -1) : RqC b q T n F o x (e, k, Q) y := by
  unfold RqC
  rw [if_neg he]
  exact h
theorem RqC.fq (h : RqC b q T n F o x r y) : FqC b o x y := by
  by_cases c : r.1 = -1
  · exact (h.gd c).1
  · exact (h.ft c).1
theorem RqC.sc (h : RqC b q T n F o x r y) : ∃ j, ScC y q T n j r.1 := by
  by_cases c : r.1 = -1
  · rw [c]; exact ⟨_, (h.gd c).2.1⟩
  · exact (h.ft c).2
theorem RqC.e (h : RqC b q T n F o x r y) : fI y 10 3 = r.1 := by
  obtain ⟨j, h⟩ := h.sc
  exact h.2.2.1
theorem FrN.fq (f : FrN x y) : FqC b o x y := by
  obtain ⟨f1, f2, f3, f4, f5⟩ := f
  exact ⟨fun a k c => f1 a k (fun z => c (Or.inl z)), fun a k _ => by rw [f3], fun a k _ => by rw [f4], fun a _ => f2 a (fun z => z), fun a _ => by rw [f5], by rw [f5]⟩
theorem FrT.fq (f : FrT x y) : FqC b o x y := by
  obtain ⟨f1, f2, f3⟩ := f
  exact ⟨fun a k c => f1 a k (fun z => c (Or.inl z)), fun a k c => f2 a k c, fun a k _ => by rw [f3], fun a _ => by rw [f3], fun a _ => by rw [f3], by rw [f3]⟩
theorem SqC.cg (h : SqC F y o Q) (eI : ∀ k, fI z o k = fI y o k) (eA : ∀ a, o + 1 ≤ a → a ≤ o + 10 → fA z a = fA y a) (eL : fL z (o + 9) = fL y (o + 9)) : SqC F z o Q := by
  unfold SqC at *
  rw [eI, eI, eI, eI, eI, eA _ (by omega) (by omega), eA _ (by omega) (by omega), eA _ (by omega) (by omega), eA _ (by omega) (by omega), eA _ (by omega) (by omega), eA _ (by omega) (by omega), eA _ (by omega) (by omega), eA _ (by omega) (by omega), eA _ (by omega) (by omega), eL]
  exact h
theorem SqC.t (h : SqC F y o Q) (ho : QId o) (f : FrT y z) : SqC F z o Q := by
  have ho : o ≠ 10 := by rcases ho with e | e <;> omega
  exact h.cg (fun k => f.1 o k ho) (fun a _ _ => by show z.2.2.2.1 a = _; rw [f.2.2]) (by show z.2.2.2.2.1 _ = _; rw [f.2.2])
theorem GdC.mv (h : GdC b q T n F o x y k Q) (ho : QId o) (f : FrT y z) (hs : ScC z q T n k' (-1)) (hk : k ≤ k') : GdC b q T n F o x z k' Q := ⟨h.1.trans f.fq, hs, h.2.2.1.t ho f, by have := h.2.2.2; omega⟩
theorem GdC.er {e : Int32} (h : GdC b q T n F o x y k Q) (f : FrT y z) (hs : ScC z q T n k' e) : FfC b q T n o x z e := ⟨h.1.trans f.fq, k', hs⟩
theorem FfC.mv {e : Int32} (h : FfC b q T n o x y e) (f : FrT y z) (hs : ScC z q T n k' e) : FfC b q T n o x z e := ⟨h.1.trans f.fq, k', hs⟩
end
