/-! the model writes the pages of a column -/
abbrev rA0 (RS : List (List SEn)) (i : Nat) : Nat := (RS.take i).flatten.length
def cs (RS : List (List SEn)) (c r e : Nat) : List Nat := sg RS.flatten c (rA0 RS r) (rA0 RS e - rA0 RS r)
theorem sg_add {E : List SEn} {c a d1 : Nat} : ∀ d2, sg E c a (d1 + d2) = sg E c a d1 ++ sg E c (a + d1) d2 := by
  intro d2
  induction d2 with
  | zero => show sg E c a d1 = _ ++ []; rw [List.append_nil]
  | succ d2 ih =>
    show sg E c a (d1 + d2) ++ _ = _ ++ (sg E c (a + d1) d2 ++ _)
    rw [ih, List.append_assoc, show a + d1.add d2 = a + d1 + d2 from (Nat.add_assoc a d1 d2).symm]
theorem cs_add {RS : List (List SEn)} {c r m e : Nat} (h1 : r ≤ m) (h2 : m ≤ e) : cs RS c r e = cs RS c r m ++ cs RS c m e := by
  have a : rA0 RS r ≤ rA0 RS m := rw_mono (RS := RS) h1
  have b : rA0 RS m ≤ rA0 RS e := rw_mono (RS := RS) h2
  unfold cs
  have := sg_add (E := RS.flatten) (c := c) (a := rA0 RS r) (d1 := rA0 RS m - rA0 RS r) (rA0 RS e - rA0 RS m)
  rw [show rA0 RS m - rA0 RS r + (rA0 RS e - rA0 RS m) = rA0 RS e - rA0 RS r by omega, show rA0 RS r + (rA0 RS m - rA0 RS r) = rA0 RS m by omega] at this
  exact this
theorem txI_a {E : List SEn} {l m : List Nat} : txI E (l ++ m) = txI E l + txI E m := by
  induction l with
  | nil => show _ = 0 + _; rw [Nat.zero_add]; rfl
  | cons i l ih => show _ + txI E (l ++ m) = _ + txI E l + txI E m; omega
/-- where a page ends -/
def peF (RS : List (List SEn)) (c most r : Nat) : Nat → Nat → Nat
  | 0, e => e
  | d + 1, e => if (cs RS c r (e + 1)).length ≤ most ∧ txI RS.flatten (cs RS c r (e + 1)) ≤ 20000 then peF RS c most r d (e + 1) else e
theorem peF_bd {RS : List (List SEn)} {c most r : Nat} : ∀ d e, e ≤ peF RS c most r d e ∧ peF RS c most r d e ≤ e + d := by
  intro d
  induction d with
  | zero => intro e; exact ⟨Nat.le_refl _, Nat.le_refl _⟩
  | succ d ih =>
    intro e
    simp only [peF]
    split
    · have := ih (e + 1); omega
    · omega
theorem peF_ok {RS : List (List SEn)} {c most r : Nat} (hm : most ≤ 1000) : ∀ d e, ((cs RS c r e).length ≤ 1000 ∧ txI RS.flatten (cs RS c r e) ≤ 20000) → ((cs RS c r (peF RS c most r d e)).length ≤ 1000 ∧ txI RS.flatten (cs RS c r (peF RS c most r d e)) ≤ 20000) := by
  intro d
  induction d with
  | zero => intro e h; exact h
  | succ d ih =>
    intro e h
    simp only [peF]
    split
    · rename_i w
      exact ih (e + 1) ⟨by omega, w.2⟩
    · exact h
/-- the bytes of a page of rows -/
def pgB (RS : List (List SEn)) (ty mr md : Nat) (es : List Nat) : List Nat := pageB ty mr md (fun k => nI (en RS.flatten (es.getD k 0)).2.1) (fun k => nI (en RS.flatten (es.getD k 0)).2.2.1) es.length (pvs RS.flatten (vs RS.flatten md es))
def chF (RS : List (List SEn)) (ty mr md c most to : Nat) : Nat → Nat → Option (List Nat × Nat)
  | 0, _ => some ([], 0)
  | d + 1, r => if to ≤ r then some ([], 0) else if 1000 < (cs RS c r (r + 1)).length then none else
    match chF RS ty mr md c most to d (peF RS c most r (to - (r + 1)) (r + 1)) with
    | none => none
    | some (B, k) => some (pgB RS ty mr md (cs RS c r (peF RS c most r (to - (r + 1)) (r + 1))) ++ B, k + 1)
abbrev FrCk (x y : St) : Prop := Fg (fun o k => o = 0 ∧ (38 ≤ k ∧ k ≤ 44 ∨ k = 64 ∨ k = 66 ∨ k = 71)) no2 no2 (fun a => a = 26 ∨ a = 27 ∨ a = 33 ∨ a = 36 ∨ a = 39 ∨ a = 40 ∨ a = 42 ∨ a = 44 ∨ a = 50 ∨ a = 51) (fun a => a = 30 ∨ a = 43) x y
theorem FrF.ck {x y : St} (h : FrF x y) : FrCk x y := h.mono (fun _ _ z => ⟨z.1, by omega⟩) (fun _ _ z => z) (fun _ _ z => z) (fun _ z => by omega) (fun _ z => Or.inl z)
theorem FrP.ck {x y : St} (h : FrP x y) : FrCk x y := h.mono (fun _ _ z => ⟨z.1, by omega⟩) (fun _ _ z => z) (fun _ _ z => z) (fun _ z => by omega) (fun _ z => Or.inr z)
theorem FrW.ck {x y : St} (h : FrW x y) : FrCk x y := h.mono (fun _ _ z => ⟨z.1, by omega⟩) (fun _ _ z => z) (fun _ _ z => z) (fun _ z => by omega) (fun _ z => z.elim)
theorem FrCk.rc {x y : St} {RS : List (List SEn)} (f : FrCk x y) (h : RcM x RS) : RcM y RS := h.cg (fun k hk => f.1 0 k (by omega)) (fun a h1 h2 => f.2.2.2.1 a (by omega)) (f.2.2.2.2.1 25 (by decide))
theorem FrCk.lm {x y : St} (f : FrCk x y) (h : LM x) : LM y := fun o => by show y.2.2.2.2.2 o = _; rw [f.2.2.2.2.2]; exact h o
theorem FrCk.rep {x y : St} {F : List SFd} (f : FrCk x y) (h : RepM x 0 F) : RepM y 0 F := by
  have eA : ∀ a, a < 12 → fA y a = fA x a := fun a ha => f.2.2.2.1 a (by omega)
  unfold RepM
  rw [eA 9 (by decide), eA 10 (by decide), eA 3 (by decide), eA 4 (by decide), eA 5 (by decide), eA 7 (by decide), eA 8 (by decide), eA 6 (by decide), eA 11 (by decide)]
  exact h
theorem Wk.cg {x y : St} {W : List Nat} (h : Wk x W) (e1 : fI y 0 66 = fI x 0 66) (e2 : fA y 42 = fA x 42) (e3 : fN y 42 = fN x 42) : Wk y W := by
  unfold Wk
  rw [e1, e2, e3]
  exact h
theorem bnd_len {ty : Nat} {P : List PV} (hP : okP ty P) : (bndB ty P).length ≤ 530 := by
  unfold bndB
  split
  · exact Nat.zero_le _
  · rename_i c
    have m1 := mnF_le (ty := ty) (P := P) (P.length - 1)
    have m2 := mxF_le (ty := ty) (P := P) (P.length - 1)
    have a := told_len (ty := ty) (p := pvd P (mnF ty P (P.length - 1))) (fun z => (hP.2 _ (by omega)).2 z)
    have b := told_len (ty := ty) (p := pvd P (mxF ty P (P.length - 1))) (fun z => (hP.2 _ (by omega)).2 z)
    rw [List.length_append]
    omega
theorem page_len {ty mr md E : Nat} {Rp Df : Nat → Int32} {P : List PV} (hP : okP ty P) (hl : P.length ≤ 1000) (ho : oF P P.length ≤ 20000) (h1 : mr ≤ 17) (h2 : md ≤ 17) (h3 : E ≤ 1000) : (pageB ty mr md Rp Df E P).length ≤ 34100 := by
  have a := body_len (Rp := Rp) (Df := Df) (E := E) hP hl ho h1 h2 h3
  have b := bnd_len hP
  have c1 := varB_len E
  have c2 := varB_len (E - P.length)
  have c3 := varB_len (bodyB ty mr md Rp Df E P).length
  have ck : (ckB (bodyB ty mr md Rp Df E P)).length = 4 := by unfold ckB fixB; rw [fixF_len]
  unfold pageB
  rw [List.length_append, List.length_append, List.length_append, List.length_append, List.length_append, List.length_append, List.length_singleton, ck]
  omega
/-- one page -/
theorem s_pageM {post : St → Prop} {x : St} {F : List SFd} {RS : List (List SEn)} {c r e ty : Nat} {W : List Nat} (hL : LM x) (hw : WfS F) (hR : RepM x 0 F) (hc : c < ncol F) (hc64 : c < 64) (hty4 : ty < 4) (hty : fTy F (lfC F c) = nI ty) (h : RcM x RS) (h33 : fA x 33 0 = 0) (hr : r ≤ e) (he : e ≤ RS.length) (hcl : ∀ i, i < RS.flatten.length → (en RS.flatten i).1 < 64 ∧ (en RS.flatten i).2.2.1 < 128) (hmr : rF F (lfC F c) ≤ 17) (hmd : dG F (nI (lfC F c)) ≤ 17)
    (hn : (cs RS c r e).length ≤ 1000) (ho : txI RS.flatten (cs RS c r e) ≤ 20000) (hok : okP ty (pvs RS.flatten (vs RS.flatten (dG F (nI (lfC F c))) (cs RS c r e)))) (hoF : oF (pvs RS.flatten (vs RS.flatten (dG F (nI (lfC F c))) (cs RS c r e))) (pvs RS.flatten (vs RS.flatten (dG F (nI (lfC F c))) (cs RS c r e))).length ≤ 20000) (hWk : Wk x W) (hWl : W.length ≤ 2 ^ 28)
    (p : ∀ y, FrCk x y → (∀ a, a = 50 ∨ a = 51 → fA y a = fA x a) → fA y 33 0 = 0 → Wk y (W ++ pgB RS ty (rF F (lfC F c)) (dG F (nI (lfC F c))) (cs RS c r e)) → post y) : wp_Mod_fillPage (fun (x779 : St) => wp_Mod_writePage (fun (x780 : St) => wp_Mod_addSheet (fun (x781 : St) => post x781) x780) x779) (nI c) (nI r) (nI e) x := by
  refine s_fillPage hL hw hR hc hc64 hty h h33 hr he hcl (by omega) hn ho (fun y y1 y2 y3 y4 y5 => ?_)
  obtain ⟨q1, q2, q3, q4, q5, q6⟩ := y5
  have hn : (cs RS c r e).length ≤ 1000 := hn
  have pl := pvs_len (E := RS.flatten) (l := vs RS.flatten (dG F (nI (lfC F c))) (cs RS c r e))
  have vle := vs_le (E := RS.flatten) (md := dG F (nI (lfC F c))) (es := cs RS c r e)
  have hy33 : fA y 33 0 = 0 := q5 0 (Nat.zero_le _)
  refine s_writePage (ty := ty) (P := pvs RS.flatten (vs RS.flatten (dG F (nI (lfC F c))) (cs RS c r e))) (mr := rF F (lfC F c)) (md := dG F (nI (lfC F c))) (E := (cs RS c r e).length) (Rp := fun k => nI (en RS.flatten ((cs RS c r e).getD k 0)).2.1) (Df := fun k => nI (en RS.flatten ((cs RS c r e).getD k 0)).2.2.1) ⟨y2, q3, hty4, hok, by omega, y1.lm hL, q4, q5, q6, hoF⟩ ⟨y3, y4, q1, hmr, hmd, hn, fun i hi => (q2 i hi).1, fun i hi => (q2 i hi).2⟩ (by omega) (fun z z1 z2 => ?_)
  have wz : Wk z W := hWk.cg ((z1.1 0 66 (by decide)).trans (y1.1 0 66 (by decide))) ((z1.2.2.2.1 42 (by decide)).trans (y1.2.2.2.1 42 (by decide))) (by show z.2.2.2.2.2 42 = x.2.2.2.2.2 42; rw [z1.2.2.2.2.2, y1.2.2.2.2.2])
  have pgl := page_len (Rp := fun k => nI (en RS.flatten ((cs RS c r e).getD k 0)).2.1) (Df := fun k => nI (en RS.flatten ((cs RS c r e).getD k 0)).2.2.1) (E := (cs RS c r e).length) hok (by omega) hoF hmr hmd hn
  refine s_addSheet wz z2 hWl (by omega) (fun v v1 v2 => p v (Fg.trans y1.ck (Fg.trans z1.ck v1.ck)) (fun a ha => ?_) ?_ v2)
  · have b1 : fA v a = fA z a := v1.2.2.2.1 a (by omega)
    have b2 : fA z a = fA y a := z1.2.2.2.1 a (by omega)
    have b3 : fA y a = fA x a := y1.2.2.2.1 a (by omega)
    rw [b1, b2, b3]
  · have b1 : fA v 33 = fA z 33 := v1.2.2.2.1 33 (by decide)
    have b2 : fA z 33 = fA y 33 := z1.2.2.2.1 33 (by decide)
    rw [b1, b2]
    exact hy33
