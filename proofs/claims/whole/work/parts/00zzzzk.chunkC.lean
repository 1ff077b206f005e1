/-! chunks of the class: the frame of a page's turn -/
abbrev FCk (s : Nat) (x y : St) : Prop := FX (fun o k => o = 45 ∧ (k = 11 ∨ k = 12) ∨ (o = 55 ∨ o = 58 ∨ o = s ∨ o = 52) ∧ (k = 1 ∨ k = 2 ∨ k = 5 ∨ k = 6)) (fun o k => o = 45 ∧ (k = 13 ∨ k = 14)) (fun o k => o = 45 ∧ (k = 3 ∨ k = 4)) (fun a => a = 61 ∨ a = 62 ∨ a = 63 ∨ a = 65 ∨ a = 69 ∨ a = stC 55 4 ∨ a = stC 58 4) (fun a => a = 64 ∨ a = 66 ∨ a = 67) (fun o => o = 55 ∨ o = 58 ∨ o = s ∨ o = 52) x y
theorem fckS {s : Nat} (hs : SnkId s) : ∀ t, (t = 55 ∨ t = 58 ∨ t = s ∨ t = 52) → SnkId t := fun t z => by
  rcases z with z | z | z | z
  · rw [z]; unfold SnkId; decide
  · rw [z]; unfold SnkId; decide
  · rw [z]; exact hs
  · rw [z]; exact id52
theorem FCk.trans {s : Nat} {x y z : St} (hs : SnkId s) (h : FCk s x y) (k : FCk s y z) : FCk s x z := FX.trans fb1 (by decide) (fckS hs) h k
theorem FTk.ck {s : Nat} {x y : St} (hs : SnkId s) (h : FTk x y) : FCk s x y := h.mono (fckS hs) (fun _ _ => id) (fun _ _ z => Or.inl z) (fun _ _ z => z.elim) (fun _ _ z => z.elim) (fun _ z => by omega) (fun _ z => Or.inl z) (fun _ z => z.elim)
theorem FB.ck {s : Nat} {x y : St} (hs : SnkId s) (h : FB x y) : FCk s x y := h.mono (fckS hs) fb1 (fun _ _ z => Or.inr ⟨by omega, z.2⟩) (fun _ _ z => z.elim) (fun _ _ z => z) (fun _ z => by omega) (fun _ z => Or.inr z) (fun _ z => by omega)
theorem FPg.ck {s : Nat} {x y : St} (hs : SnkId s) (h : FPg s x y) : FCk s x y := h.mono (fckS hs) (fun _ _ => id) (fun _ _ z => Or.inr ⟨by omega, z.2⟩) (fun _ _ z => z) (fun _ _ z => z.elim) (fun _ z => z.elim) (fun _ z => z.elim) (fun _ z => by omega)
theorem stRow.ck {r s : Nat} {x y : St} (h : stRow r) (hn : r < 61 ∨ 69 < r) (hs : SnkId s) (hK : SkS x) (f : FCk s x y) : fA y r = fA x r ∧ fN y r = fN x r := by
  refine f.2.2.2.1 r (Or.inl h.1) (fun z => ?_) (fun t ht => stRow_ne (fckS hs t ht) hK h)
  rcases z with z | z | z | z | z | z | z
  · omega
  · omega
  · omega
  · omega
  · omega
  · exact h.2.2 55 (by unfold SnkId; decide) z
  · exact h.2.2 58 (by unfold SnkId; decide) z
theorem FCk.n {s r : Nat} {x y : St} (f : FCk s x y) (h : r < 152) : fN y r = fN x r := f.2.2.2.2.2.1 r h
theorem FCk.r {s k : Nat} {x y : St} (hs : SnkId s) (f : FCk s x y) (h : k ≠ 3 ∧ k ≠ 4) : fR y 45 k = fR x 45 k := f.2.2.1 45 k (fun z => by omega) (fun z => by have := (snk45 hs).1; omega)
theorem Snk.ck {x y : St} {s t : Nat} {B : List Nat} (hs : SnkId s) (ht : SnkId t) (h1 : t ≠ s) (h2 : t ≠ 52 ∧ t ≠ 55 ∧ t ≠ 58) (hK : SkS x) (f : FCk s x y) (h : Snk x t B) : Snk y t B :=
  h.fr hK ht f (fun k _ z => by have := snk45 ht; omega) (fb1 t ht) (by omega) (fun q hq z => by
    rcases z with z | z | z | z | z | z | z
    · rw [z] at hq; unfold skRow at hq; omega
    · rw [z] at hq; unfold skRow at hq; omega
    · rw [z] at hq; unfold skRow at hq; omega
    · rw [z] at hq; unfold skRow at hq; omega
    · rw [z] at hq; unfold skRow at hq; omega
    · rw [z, show stC 55 4 = stC 55 4 from rfl] at hq; revert hq; unfold skRow; decide +kernel
    · rw [z] at hq; revert hq; unfold skRow; decide +kernel) (fckS hs)
theorem st37 : stRow 37 := st_of (by decide) (by decide) (by decide +kernel)
theorem st38 : stRow 38 := st_of (by decide) (by decide) (by decide +kernel)
theorem st41 : stRow 41 := st_of (by decide) (by decide) (by decide +kernel)
theorem EnW.ck {s : Nat} {x y : St} {E : List SEn} {ty : Nat} {l : List Nat} (hs : SnkId s) (hK : SkS x) (f : FCk s x y) (h : EnW x E ty l) : EnW y E ty l := fun i hi => by
  obtain ⟨h1, h2, h3, h4, h5, h6⟩ := h i hi
  refine ⟨h1, ?_, ?_, h4, h5, ?_⟩
  · rw [(st37.ck (by decide) hs hK f).1]; exact h2
  · rw [(st38.ck (by decide) hs hK f).1]; exact h3
  · rw [show fL y 39 = fL x 39 from f.2.2.2.2.1 39 (by decide)]
    have e := st42.ck (by decide) hs hK f
    unfold RfC at h6 ⊢
    rw [e.1, e.2]
    exact h6
/-- the writer at a column -/
def CkI (x : St) (s sc c f ty mr md : Nat) (E : List SEn) (VL : Nat → Int64) (Z : List Nat) : Prop := LC x ∧ fR x 45 0 = some s ∧ fR x 45 6 = some 36 ∧ SdC x sc c f ty md ∧ (stRow (stC sc 10) ∧ stRow (stC sc 3) ∧ stRow (stC sc 5) ∧ stRow (stC sc 6) ∧ (stC sc 5 < 61 ∨ 69 < stC sc 5)) ∧ fN x (stC sc 5) = 128 ∧ fA x (stC sc 5) f = nI mr ∧ EnW x E ty Z ∧ fL x 39 = VL
/-- the sinks of the writer's pages -/
def TbI (x : St) (t b : Nat) : Prop := fR x 45 3 = some b ∧ fR x 45 4 = some t ∧ Sz x ∧ fI x t 5 = 0 ∧ fI x t 6 = 0 ∧ fI x b 5 = 0 ∧ fI x b 6 = 0 ∧ fI x 52 5 = 0 ∧ fI x 52 6 = 0
theorem CkI.k {x y : St} {s sc c f ty mr md : Nat} {E : List SEn} {VL : Nat → Int64} {Z : List Nat} (hs : SnkId s) (hK : SkS x) (g : FCk s x y) (h : CkI x s sc c f ty mr md E VL Z) : CkI y s sc c f ty mr md E VL Z := by
  obtain ⟨h1, h2, h3, ⟨s1, s2, s3, s4, s5, s6, s7, s8, s9, s10, s11, s12, s13, s14, s15⟩, ⟨r1, r2, r3, r4, r5⟩, h6, h7, h8, h9⟩ := h
  have e10 := r1.ck s4 hs hK g
  have e3 := r2.ck s5 hs hK g
  have e5 := r3.ck r5 hs hK g
  have e6 := r4.ck s6 hs hK g
  refine ⟨fun r hr => (g.n hr).trans (h1 r hr), (g.r hs (by decide)).trans h2, (g.r hs (by decide)).trans h3, ⟨(g.r hs (by decide)).trans s1, s2, s3, s4, s5, s6, s7, s8, s9, e10.2.trans s10, e3.2.trans s11, e6.2.trans s12, by rw [e10.1]; exact s13, by rw [e3.1]; exact s14, by rw [e6.1]; exact s15⟩, ⟨r1, r2, r3, r4, r5⟩, e5.2.trans h6, by rw [e5.1]; exact h7, h8.ck hs hK g, ?_⟩
  rw [show fL y 39 = fL x 39 from g.2.2.2.2.1 39 (by decide)]
  exact h9
