/-! the class reads a SCHEMA -/
abbrev FrN (x y : St) : Prop := Fr (fun o _ => o = 10) (fun _ => False) x y
/-- the class reads the text T of n bytes at k, with fault e -/
def ScC (x : St) (q : Nat) (T : Nat → Int32) (n k : Nat) (e : Int32) : Prop := TxC x 10 q T n ∧ fI x 10 2 = nI k ∧ fI x 10 3 = e ∧ k ≤ n
theorem ScC.go {x : St} {q : Nat} {T : Nat → Int32} {n k k' : Nat} {e : Int32} (h : ScC x q T n k e) (hk : k' ≤ n) : ScC (setI x 10 2 (nI k')) q T n k' e := ⟨h.1.I (by decide), rfl, h.2.2.1, hk⟩
theorem ScC.ill {x : St} {q : Nat} {T : Nat → Int32} {n k : Nat} {e v : Int32} (h : ScC x q T n k e) : ScC (setI x 10 3 v) q T n k v := ⟨h.1.I (by decide), h.2.1, rfl, h.2.2.2⟩
theorem ScC.oth {x : St} {q a : Nat} {T : Nat → Int32} {n k : Nat} {e v : Int32} (h : ScC x q T n k e) (h1 : 1 ≠ a) (h2 : 2 ≠ a) (h3 : 3 ≠ a) : ScC (setI x 10 a v) q T n k e := by
  refine ⟨h.1.I h1, ?_, ?_, h.2.2.2⟩
  · rw [gI_ne h2]; exact h.2.1
  · rw [gI_ne h3]; exact h.2.2.1
theorem FrN.i {x : St} {a : Nat} {v : Int32} : FrN x (setI x 10 a v) := Fr.I rfl
theorem d_takeAnyWord {post : Int32 → St → Prop} {q : Nat} {x : St} {T : Nat → Int32} {n k : Nat} {e : Int32} (h : ScC x q T n k e)
    (p1 : 0 < wln T n (skip T n k) → ∀ y, FrN x y → ScC y q T n (skip T n k + wln T n (skip T n k)) e → fI y 10 4 = nI (skip T n k) → fI y 10 5 = nI (wln T n (skip T n k)) → post 1 y)
    (p0 : wln T n (skip T n k) = 0 → ∀ y, FrN x y → ScC y q T n (skip T n k) e → post 0 y) : wp_Scn_takeAnyWord post 10 x := by
  have hs := @skip_le T n k h.2.2.2
  have hw := @wln_le T n (skip T n k) hs
  refine c_takeAnyWord h.1 h.2.1 h.2.2.2 (fun c => p1 c _ ?_ ?_ ?_ ?_) (fun c => p0 c _ FrN.i (h.go hs))
  · exact (FrN.i.trans FrN.i).trans FrN.i
  · exact (((h.oth (by decide) (by decide) (by decide)).go hw).oth (by decide) (by decide) (by decide))
  · unfold tkW; rw [gI_ne (by decide), gI_ne (by decide), gI_at]
  · unfold tkW; rw [gI_at]
theorem d_takeWord {post : Int32 → St → Prop} {q j : Nat} {b : List Nat} {x : St} {T : Nat → Int32} {n k : Nat} {e : Int32} (h : ScC x q T n k e) (hj : isSt j b) (hl : 0 < b.length)
    (p1 : isWd T n (skip T n k) b → ∀ y, FrN x y → ScC y q T n (skip T n k + b.length) e → post 1 y)
    (p0 : ¬ isWd T n (skip T n k) b → ∀ y, FrN x y → ScC y q T n (skip T n k) e → post 0 y) : wp_Scn_takeWord post 10 j x := by
  have hs := @skip_le T n k h.2.2.2
  refine c_takeWord h.1 hj hl h.2.1 h.2.2.2 (fun c => p1 c _ ((FrN.i.trans FrN.i).trans FrN.i) ?_) (fun c y hy => ?_)
  · exact (((h.oth (by decide) (by decide) (by decide)).go (wd_end c hs)).oth (by decide) (by decide) (by decide))
  · rcases hy with rfl | ⟨w, rfl⟩
    · exact p0 c _ FrN.i (h.go hs)
    · exact p0 c _ ((FrN.i.trans FrN.i).trans FrN.i) (((h.oth (by decide) (by decide) (by decide)).go hs).oth (by decide) (by decide) (by decide))
theorem d_needWord {post : St → Prop} {q j : Nat} {b : List Nat} {x : St} {T : Nat → Int32} {n k : Nat} (h : ScC x q T n k (-1)) (hj : isSt j b) (hl : 0 < b.length)
    (p1 : isWd T n (skip T n k) b → ∀ y, FrN x y → ScC y q T n (skip T n k + b.length) (-1) → post y)
    (p0 : ¬ isWd T n (skip T n k) b → ∀ y, FrN x y → ScC y q T n (skip T n k) (nI (skip T n k)) → post y) : wp_Scn_needWord post 10 j x := by
  unfold wp_Scn_needWord
  refine c_good ?_
  rw [if_pos h.2.2.1]
  refine br_f (by decide) (d_takeWord h hj hl (fun c y f s => bn_f (by decide) (p1 c y f s)) (fun c y f s => bn_t rfl ?_))
  rw [s.2.1]
  refine c_refuse ?_
  rw [if_pos s.2.2.1]
  exact p0 c _ (f.trans FrN.i) s.ill
theorem st_k0 : isSt 0 [114, 101, 113, 117, 105, 114, 101, 100] := by unfold isSt; decide +kernel
theorem st_k1 : isSt 1 [111, 112, 116, 105, 111, 110, 97, 108] := by unfold isSt; decide +kernel
theorem st_k2 : isSt 2 [114, 101, 112, 101, 97, 116, 101, 100] := by unfold isSt; decide +kernel
theorem st_t0 : isSt 3 [98, 111, 111, 108] := by unfold isSt; decide +kernel
theorem st_t1 : isSt 4 [105, 110, 116] := by unfold isSt; decide +kernel
theorem st_t2 : isSt 5 [108, 111, 110, 103] := by unfold isSt; decide +kernel
theorem st_t3 : isSt 6 [116, 101, 120, 116] := by unfold isSt; decide +kernel
theorem st_t4 : isSt 7 [103, 114, 111, 117, 112] := by unfold isSt; decide +kernel
theorem d_readMode {post : Int32 → St → Prop} {q o : Nat} {x : St} {T : Nat → Int32} {n k : Nat} (h : ScC x q T n k (-1))
    (p0 : wdAt T n (skip T n k) kW 0 = -1 → ∀ v y, FrN x y → ScC y q T n (skip T n k) (nI (skip T n k)) → post v y)
    (p1 : ∀ j, j < 3 → wdAt T n (skip T n k) kW 0 = nI j → ∀ y, FrN x y → ScC y q T n (skip T n k + (kW.getD j []).length) (-1) → post (nI j) y) : wp_Sch_readMode post o 10 x := by
  unfold wp_Sch_readMode
  refine d_takeWord h st_k0 (by decide) (fun c y f z => br_f (by decide) ?_) (fun c0 y f z => br_t rfl (d_takeWord z st_k1 (by decide) (fun c y2 f2 z2 => br_f (by decide) ?_) (fun c1 y2 f2 z2 => br_t rfl (d_needWord z2 st_k2 (by decide) (fun c y3 f3 z3 => ?_) (fun c2 y3 f3 z3 => ?_)))))
  · exact p1 0 (by decide) (by show (if _ then _ else _) = _; rw [if_pos c]) y f z
  · rw [skip_skip] at c z2
    exact p1 1 (by decide) (by show (if _ then _ else if _ then _ else _) = _; rw [if_neg c0, if_pos c]) y2 (f.trans f2) z2
  · rw [skip_skip] at c1
    rw [skip_skip, skip_skip] at c z3
    exact p1 2 (by decide) (by show (if _ then _ else if _ then _ else if _ then _ else _) = _; rw [if_neg c0, if_neg c1, if_pos c]) y3 ((f.trans f2).trans f3) z3
  · rw [skip_skip] at c1
    rw [skip_skip, skip_skip] at c2 z3
    exact p0 (by show (if _ then _ else if _ then _ else if _ then _ else _) = _; rw [if_neg c0, if_neg c1, if_neg c2]; rfl) 2 y3 ((f.trans f2).trans f3) z3
theorem d_readType {post : Int32 → St → Prop} {q o : Nat} {x : St} {T : Nat → Int32} {n k : Nat} (h : ScC x q T n k (-1))
    (p0 : wdAt T n (skip T n k) tW 0 = -1 → ∀ v y, FrN x y → ScC y q T n (skip T n k) (nI (skip T n k)) → post v y)
    (p1 : ∀ j, j < 5 → wdAt T n (skip T n k) tW 0 = nI j → ∀ y, FrN x y → ScC y q T n (skip T n k + (tW.getD j []).length) (-1) → post (nI j) y) : wp_Sch_readType post o 10 x := by
  unfold wp_Sch_readType
  refine c_good ?_
  rw [if_pos h.2.2.1]
  refine bn_f (by decide) (d_takeWord h st_t0 (by decide) (fun c y f z => br_f (by decide) ?_) (fun c0 y f z => br_t rfl (d_takeWord z st_t1 (by decide) (fun c y2 f2 z2 => br_f (by decide) ?_) (fun c1 y2 f2 z2 => br_t rfl (d_takeWord z2 st_t2 (by decide) (fun c y3 f3 z3 => br_f (by decide) ?_) (fun c2 y3 f3 z3 => br_t rfl (d_takeWord z3 st_t3 (by decide) (fun c y4 f4 z4 => br_f (by decide) ?_) (fun c3 y4 f4 z4 => br_t rfl (d_needWord z4 st_t4 (by decide) (fun c y5 f5 z5 => ?_) (fun c4 y5 f5 z5 => ?_))))))))))
  · exact p1 0 (by decide) (by show (if _ then _ else _) = _; rw [if_pos c]) y f z
  · rw [skip_skip] at c z2
    exact p1 1 (by decide) (by show (if _ then _ else if _ then _ else _) = _; rw [if_neg c0, if_pos c]) y2 (f.trans f2) z2
  · rw [skip_skip] at c1
    rw [skip_skip, skip_skip] at c z3
    exact p1 2 (by decide) (by show (if _ then _ else if _ then _ else if _ then _ else _) = _; rw [if_neg c0, if_neg c1, if_pos c]) y3 ((f.trans f2).trans f3) z3
  · rw [skip_skip] at c1
    rw [skip_skip, skip_skip] at c2
    rw [skip_skip, skip_skip, skip_skip] at c z4
    exact p1 3 (by decide) (by show (if _ then _ else if _ then _ else if _ then _ else if _ then _ else _) = _; rw [if_neg c0, if_neg c1, if_neg c2, if_pos c]) y4 (((f.trans f2).trans f3).trans f4) z4
  · rw [skip_skip] at c1
    rw [skip_skip, skip_skip] at c2
    rw [skip_skip, skip_skip, skip_skip] at c3
    rw [skip_skip, skip_skip, skip_skip, skip_skip] at c z5
    exact p1 4 (by decide) (by show (if _ then _ else if _ then _ else if _ then _ else if _ then _ else if _ then _ else _) = _; rw [if_neg c0, if_neg c1, if_neg c2, if_neg c3, if_pos c]) y5 ((((f.trans f2).trans f3).trans f4).trans f5) z5
  · rw [skip_skip] at c1
    rw [skip_skip, skip_skip] at c2
    rw [skip_skip, skip_skip, skip_skip] at c3
    rw [skip_skip, skip_skip, skip_skip, skip_skip] at c4 z5
    exact p0 (by show (if _ then _ else if _ then _ else if _ then _ else if _ then _ else if _ then _ else _) = _; rw [if_neg c0, if_neg c1, if_neg c2, if_neg c3, if_neg c4]; rfl) 4 y5 ((((f.trans f2).trans f3).trans f4).trans f5) z5
/-- what the class's schema object and text come to behind a FIELD -/
abbrev FrX (s : Nat) (x y : St) : Prop := Fr (fun o _ => o = 10 ∨ o = s) (rwS s) x y
theorem FrN.x {s : Nat} {x y : St} (h : FrN x y) : FrX s x y := h.wk (fun _ _ z => Or.inl z) (fun _ z => z.elim)
theorem LC.fr {I : Nat → Nat → Prop} {A : Nat → Prop} {x y : St} (h : LC x) (f : Fr I A x y) : LC y := by
  intro r hr
  show y.2.2.2.2.2 r = _
  rw [f.2.2.2.2]
  exact h r hr
theorem RepC.frN {x y : St} {s : Nat} {F : List SFd} (h : RepC x s F) (hs : SchId s) (f : FrN x y) : RepC y s F := by
  have e : ∀ r, fA y r = fA x r := fun r => f.2.1 r (fun z => z)
  have e10 : s ≠ 10 := by rcases hs with rfl | rfl | rfl <;> decide
  have ei : ∀ k, fI y s k = fI x s k := fun k => f.1 s k (fun z => e10 z)
  unfold RepC
  simp only [e, ei]
  exact h
theorem ScC.fr {x y : St} {s q : Nat} {T : Nat → Int32} {n k : Nat} {e : Int32} (h : ScC x q T n k e) (hs : SchId s) (hq : ∀ k, 2 ≤ k → k ≤ 12 → q ≠ stC s k) (f : Fr (fun o _ => o = s) (rwS s) x y) : ScC y q T n k e := by
  have e10 : (10 : Nat) ≠ s := by rcases hs with rfl | rfl | rfl <;> decide
  have ei : ∀ k, fI y 10 k = fI x 10 k := fun k => f.1 10 k e10
  have er : fA y q = fA x q := f.2.1 q (fun ⟨k, a, b, c⟩ => hq k a b c)
  have en : fN y q = fN x q := by show y.2.2.2.2.2 q = _; rw [f.2.2.2.2]
  have eR : fR y 10 0 = fR x 10 0 := by show y.2.2.1 10 0 = _; rw [f.2.2.2.1]
  obtain ⟨⟨h1, h2, h3, h4, h5, h6⟩, h7, h8, h9⟩ := h
  refine ⟨⟨by rw [eR]; exact h1, by rw [ei]; exact h2, h3, by rw [en]; exact h4, by rw [en]; exact h5, by rw [er]; exact h6⟩, by rw [ei]; exact h7, by rw [ei]; exact h8, h9⟩
theorem d_needSign {post : St → Prop} {q : Nat} {v : Int32} {x : St} {T : Nat → Int32} {n k : Nat} (h : ScC x q T n k (-1)) (hv : 0 ≤ v)
    (p1 : skip T n k < n → T (skip T n k) = v → ∀ y, FrN x y → ScC y q T n (skip T n k + 1) (-1) → post y)
    (p0 : ¬ (skip T n k < n ∧ T (skip T n k) = v) → ∀ y, FrN x y → ScC y q T n (skip T n k) (nI (skip T n k)) → post y) : wp_Scn_needSign post 10 v x := by
  have hs := @skip_le T n k h.2.2.2
  have hn := h.1.2.2.1
  have hk := h.2.2.2
  refine c_needSign h.1 h.2.1 (by omega) hv (fun _ a b => p1 a b _ FrN.i (h.go (by omega))) (fun _ z => p0 z _ (FrN.i.trans FrN.i) (h.go hs).ill) (fun z => absurd h.2.2.1 z)
