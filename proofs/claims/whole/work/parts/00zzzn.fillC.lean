/-! the class fills a page -/
abbrev en (E : List SEn) (i : Nat) : SEn := E.getD i en0
def vs (E : List SEn) (md : Nat) (es : List Nat) : List Nat := es.filter (fun i => decide ((en E i).2.2.1 = md))
/-- the page so far -/
def PgS (x : St) (E : List SEn) (md : Nat) (es : List Nat) : Prop := fI x 45 11 = nI es.length ∧ es.length ≤ 1000 ∧ (∀ k, k < es.length → fA x 62 k = nI (en E (es.getD k 0)).2.1 ∧ fA x 63 k = nI (en E (es.getD k 0)).2.2.1) ∧ fI x 45 12 = nI (vs E md es).length ∧ ∀ k, k < (vs E md es).length → fL x 64 k = fL x 39 ((vs E md es).getD k 0)
/-- entries of a column -/
def EnW (x : St) (E : List SEn) (ty : Nat) (l : List Nat) : Prop := ∀ i, i ∈ l → i < 10000 ∧ fA x 37 i = nI (en E i).2.1 ∧ fA x 38 i = nI (en E i).2.2.1 ∧ (en E i).2.1 < 128 ∧ (en E i).2.2.1 < 128 ∧ RfC x 42 ty (fL x 39 i) ((en E i).2.2.2.1, (en E i).2.2.2.2)
abbrev FTk (x y : St) : Prop := FX (fun o k => o = 45 ∧ (k = 11 ∨ k = 12)) no2 no2 (fun a => a = 61 ∨ a = 62 ∨ a = 63) (fun a => a = 64) no1 x y
theorem FTk.trans {x y z : St} (h : FTk x y) (k : FTk y z) : FTk x z := FX.trans (fun _ _ => id) id (fun _ z => z.elim) h k
theorem FTk.i {x : St} {k : Nat} {v : Int32} (h : k = 11 ∨ k = 12) : FTk x (setI x 45 k v) := by
  refine ⟨fun o j c => ?_, fun _ _ _ => rfl, fun _ _ _ _ => rfl, fun _ _ _ _ => ⟨rfl, rfl⟩, fun _ _ => rfl, fun _ _ => rfl, fun t r a b => Or.inl ⟨t, a, b⟩⟩
  show (if o = 45 ∧ j = k then v else x.1 o j) = _
  rw [if_neg (fun z => c ⟨z.1, by rw [z.2]; exact h⟩)]
theorem FTk.a {x : St} {r : Nat} {i v : Int32} (h : r = 61 ∨ r = 62 ∨ r = 63) : FTk x (setA x r i v) := by
  refine ⟨fun _ _ _ => rfl, fun _ _ _ => rfl, fun _ _ _ _ => rfl, fun a _ c _ => ⟨?_, rfl⟩, fun _ _ => rfl, fun _ _ => rfl, fun t r a b => Or.inl ⟨t, a, b⟩⟩
  show (if a = r then _ else _) = _
  rw [if_neg (fun z => c (by rw [z]; exact h))]
theorem FTk.l {x : St} {i : Int32} {v : Int64} : FTk x (setL x 64 i v) := by
  refine ⟨fun _ _ _ => rfl, fun _ _ _ => rfl, fun _ _ _ _ => rfl, fun _ _ _ _ => ⟨rfl, rfl⟩, fun a c => ?_, fun _ _ => rfl, fun t r a b => Or.inl ⟨t, a, b⟩⟩
  show (if a = 64 then _ else _) = _
  rw [if_neg c]
theorem FTk.row {x y : St} {r : Nat} (f : FTk x y) (h : r < 152) (h2 : r ≠ 61 ∧ r ≠ 62 ∧ r ≠ 63) : fA y r = fA x r := (f.2.2.2.1 r (Or.inl h) (by omega) (fun _ z => z.elim)).1
theorem FTk.lw {x y : St} {r : Nat} (f : FTk x y) (h : r ≠ 64) : fL y r = fL x r := f.2.2.2.2.1 r h
theorem FTk.n {x y : St} {r : Nat} (f : FTk x y) (h : r < 152) : fN y r = fN x r := f.2.2.2.2.2.1 r h
theorem LC.tk {x y : St} (h : LC x) (f : FTk x y) : LC y := fun r hr => (f.n hr).trans (h r hr)
theorem EnW.tk {x y : St} {E : List SEn} {ty : Nat} {l : List Nat} (h : EnW x E ty l) (f : FTk x y) : EnW y E ty l := fun i hi => by
  obtain ⟨h1, h2, h3, h4, h5, h6⟩ := h i hi
  refine ⟨h1, by rw [f.row (by decide) (by decide)]; exact h2, by rw [f.row (by decide) (by decide)]; exact h3, h4, h5, ?_⟩
  rw [f.lw (by decide)]
  unfold RfC at h6 ⊢
  rw [f.n (by decide), f.row (by decide) (by decide)]
  exact h6
theorem EnW.sub {x : St} {E : List SEn} {ty : Nat} {l m : List Nat} (h : EnW x E ty l) (s : ∀ i, i ∈ m → i ∈ l) : EnW x E ty m := fun i hi => h i (s i hi)
theorem gdA1 {G : List Nat} {k d : Nat} (h : d < G.length) : (G ++ [k]).getD d 0 = G.getD d 0 := gd_app1 h
theorem vs_app {E : List SEn} {md i : Nat} {es : List Nat} : vs E md (es ++ [i]) = vs E md es ++ (if (en E i).2.2.1 = md then [i] else []) := by
  unfold vs
  rw [List.filter_append]
  congr 1
  by_cases c : (en E i).2.2.1 = md
  · rw [if_pos c, List.filter_cons, decide_eq_true c]; rfl
  · rw [if_neg c, List.filter_cons, decide_eq_false c]; rfl
theorem vs_le {E : List SEn} {md : Nat} {es : List Nat} : (vs E md es).length ≤ es.length := List.length_filter_le _ _
theorem lgd {l : List Nat} {k : Nat} (h : k < l.length) : l.take (k + 1) = l.take k ++ [l.getD k 0] ∧ l.drop k = l.getD k 0 :: l.drop (k + 1) := by
  constructor
  · rw [List.take_succ_eq_append_getElem h, List.getD_eq_getElem?_getD, List.getElem?_eq_getElem h]
    rfl
  · rw [List.drop_eq_getElem_cons h, List.getD_eq_getElem?_getD, List.getElem?_eq_getElem h]
    rfl
theorem c_take {post : St → Prop} {x : St} {E : List SEn} {ty md c size : Nat} {es l : List Nat} (hc : c < 64) (hL : LC x) (h6 : fR x 45 6 = some 36) (hP : PgS x E md es) (hE : EnW x E ty l) (hCh : Chn (fA x 41) (fA x 61 c) l) (hs : size ≤ l.length) (he : es.length + size ≤ 1000) (hmd : md < 128) (p : ∀ y, FTk x y → PgS y E md (es ++ l.take size) → Chn (fA y 41) (fA y 61 c) (l.drop size) → (∀ d, d ≠ c → fA y 61 d = fA x 61 d) → post y) : wp_Wrt_takeEntries post 45 (nI c) (nI size) (nI md) x := by
  unfold wp_Wrt_takeEntries
  have e61 : ∀ {y : St}, LC y → fN y (stC 45 7) = 64 := fun h => (h 61 (by decide)).trans (by decide +kernel)
  refine ⟨vp_in_nI (by rw [e61 hL]; exact hc) (by rw [e61 hL]; decide), nm_e ?_⟩
  rw [rA_nI (by omega)]
  refine lp_Wrt_takeEntries_11 (fun a0 a1 a2 a3 a4 a5 y => 45 = a0 ∧ nI c = a1 ∧ nI size = a2 ∧ nI md = a3 ∧ ∃ k, nI k = a5 ∧ k ≤ size ∧ FTk x y ∧ PgS y E md (es ++ l.take k) ∧ Chn (fA y 41) a4 (l.drop k) ∧ fA y 61 = fA x 61) (fun _ _ _ _ _ a5 _ => size - a5.toNatClampNeg) ?_ _ _ _ _ _ _ _ ⟨rfl, rfl, rfl, rfl, 0, rfl, Nat.zero_le _, FX.refl x, by rw [List.take_zero, List.append_nil]; exact hP, by rw [List.drop_zero]; exact hCh, rfl⟩
  rintro Q a0 a1 a2 a3 a4 a5 y ⟨rfl, rfl, rfl, rfl, k, rfl, k1, y1, y2, y3, y4⟩ ih
  have hLy := hL.tk y1
  unfold j_Wrt_takeEntries_11
  by_cases ck : k < size
  · have hkl : k < l.length := by omega
    obtain ⟨tk, dr⟩ := lgd hkl
    rw [dr] at y3
    obtain ⟨z1, z2⟩ := y3
    have hi := hE.tk y1 (l.getD k 0) (by rw [List.getD_eq_getElem?_getD, List.getElem?_eq_getElem hkl]; exact List.getElem_mem hkl)
    generalize l.getD k 0 = i at *
    obtain ⟨i1, i2, i3, i4, i5, i6⟩ := hi
    subst z1
    obtain ⟨q1, q2, q3, q4, q5⟩ := y2
    have ln : (es ++ l.take k).length = es.length + k := by rw [List.length_append, List.length_take]; omega
    have vl := vs_le (E := E) (md := md) (es := es ++ l.take k)
    generalize hes : es ++ l.take k = es' at *
    have r6 : fR y 45 6 = some 36 := (y1.2.2.1 45 6 id (fun z => z.1.elim)).trans h6
    have n62 : fN y (stC 45 8) = 1000 := (hLy 62 (by decide)).trans (by decide +kernel)
    have n63 : fN y (stC 45 9) = 1000 := (hLy 63 (by decide)).trans (by decide +kernel)
    have n64 : fN y (stC 45 10) = 1000 := (hLy 64 (by decide)).trans (by decide +kernel)
    have n37 : fN y (stC 36 5) = 10000 := (hLy 37 (by decide)).trans (by decide +kernel)
    have n38 : fN y (stC 36 6) = 10000 := (hLy 38 (by decide)).trans (by decide +kernel)
    have n39 : fN y (stC 36 7) = 10000 := (hLy 39 (by decide)).trans (by decide +kernel)
    have n41 : fN y (stC 36 9) = 10000 := (hLy 41 (by decide)).trans (by decide +kernel)
    have vi : ∀ {n : Nat}, n = 10000 → vp_in (nI i) n := fun e => by rw [e]; exact vp_in_nI i1 (by decide)
    refine br_f (by (first | omega | (simp (disch := omega) only [Int32.le_iff_toInt_le, Int32.lt_iff_toInt_lt, z_eq, z_in, nI_toInt, z_cl, z_m1, z_sg, z_255, Int32.reduceToInt] <;> omega) | (simp only [Int32.le_iff_toInt_le, Int32.lt_iff_toInt_lt, z_eq, z_in, z_add, z_sub, z_mul, z_neg, z_nI, z_cl, z_sg, z_255, z_lit, Int32.reduceToInt] <;> omega))) (br_f (by (first | omega | (simp (disch := omega) only [Int32.le_iff_toInt_le, Int32.lt_iff_toInt_lt, z_eq, z_in, nI_toInt, z_cl, z_m1, z_sg, z_255, Int32.reduceToInt] <;> omega) | (simp only [Int32.le_iff_toInt_le, Int32.lt_iff_toInt_lt, z_eq, z_in, z_add, z_sub, z_mul, z_neg, z_nI, z_cl, z_sg, z_255, z_lit, Int32.reduceToInt] <;> omega))) ?_)
    rw [q1]
    refine br_f (by (first | omega | (simp (disch := omega) only [Int32.le_iff_toInt_le, Int32.lt_iff_toInt_lt, z_eq, z_in, nI_toInt, z_cl, z_m1, z_sg, z_255, Int32.reduceToInt] <;> omega) | (simp only [Int32.le_iff_toInt_le, Int32.lt_iff_toInt_lt, z_eq, z_in, z_add, z_sub, z_mul, z_neg, z_nI, z_cl, z_sg, z_255, z_lit, Int32.reduceToInt] <;> omega))) ⟨36, r6, vi n37, vp_in_nI (by omega) (by omega), nm_e ?_⟩
    rw [show fI (setA y (stC 45 8) (nI es'.length) (rA y (stC 36 5) (nI i))) 45 11 = nI es'.length from q1]
    refine ⟨36, r6, vi n38, vp_in_nI (by show _ < fN y (stC 45 9); omega) (by show fN y (stC 45 9) < _; omega), nm_e ?_⟩
    rw [show fI (setA (setA y (stC 45 8) (nI es'.length) (rA y (stC 36 5) (nI i))) (stC 45 9) (nI es'.length) (rA (setA y (stC 45 8) (nI es'.length) (rA y (stC 36 5) (nI i))) (stC 36 6) (nI i))) 45 11 = nI es'.length from q1, nI_1]
    have w37 : rA y (stC 36 5) (nI i) = nI (en E i).2.1 := by rw [rA_nI (by omega)]; exact i2
    rw [w37]
    have w38 : rA (setA y (stC 45 8) (nI es'.length) (nI (en E i).2.1)) (stC 36 6) (nI i) = nI (en E i).2.2.1 := by
      rw [rA_nI (by omega)]
      show fA (setA y 62 _ _) 38 i = _
      rw [gA_ne (by decide)]; exact i3
    rw [w38]
    refine nm_e ⟨36, r6, vi n38, ?_⟩
    -- the state with the levels
    have hz : ∃ z, z = setI (setA (setA y (stC 45 8) (nI es'.length) (nI (en E i).2.1)) (stC 45 9) (nI es'.length) (nI (en E i).2.2.1)) 45 11 (nI (es'.length + 1)) := ⟨_, rfl⟩
    obtain ⟨z, ez⟩ := hz
    have fz : FTk y z := by rw [ez]; exact FTk.trans (FTk.a (r := 62) (Or.inr (Or.inl rfl))) (FTk.trans (FTk.a (r := 63) (Or.inr (Or.inr rfl))) (FTk.i (Or.inl rfl)))
    have z11 : fI z 45 11 = nI (es'.length + 1) := by rw [ez]; exact gI_at
    have z12 : fI z 45 12 = nI (vs E md es').length := by rw [ez, gI_ne (by decide)]; exact q4
    have z62 : ∀ j, fA z 62 j = if j = es'.length then nI (en E i).2.1 else fA y 62 j := fun j => by
      rw [ez]
      show fA (setA (setA y 62 (nI es'.length) _) 63 (nI es'.length) _) 62 j = _
      rw [gA_ne (by decide), gA_at, nI_clamp (by omega)]
      by_cases e : j = es'.length
      · rw [e, upd_at, if_pos rfl]
      · rw [upd_ne e, if_neg e]
    have z63 : ∀ j, fA z 63 j = if j = es'.length then nI (en E i).2.2.1 else fA y 63 j := fun j => by
      rw [ez]
      show fA (setA (setA y 62 (nI es'.length) _) 63 (nI es'.length) _) 63 j = _
      rw [gA_at, nI_clamp (by omega), gA_ne (by decide)]
      by_cases e : j = es'.length
      · rw [e, upd_at, if_pos rfl]
      · rw [upd_ne e, if_neg e]
    have z61 : fA z 61 = fA y 61 := by
      rw [ez]
      show fA (setA (setA y 62 (nI es'.length) _) 63 (nI es'.length) _) 61 = _
      rw [gA_ne (by decide), gA_ne (by decide)]
    have zL : ∀ r, fL z r = fL y r := fun r => by rw [ez]; rfl
    rw [← ez]
    have l' : (es' ++ [i]).length = es'.length + 1 := by rw [List.length_append]; rfl
    have lev : ∀ k, k < (es' ++ [i]).length → fA z 62 k = nI (en E ((es' ++ [i]).getD k 0)).2.1 ∧ fA z 63 k = nI (en E ((es' ++ [i]).getD k 0)).2.2.1 := fun k hk => by
      rw [z62, z63]
      by_cases e : k = es'.length
      · rw [if_pos e, if_pos e, e, gd_app2]
        exact ⟨rfl, rfl⟩
      · rw [if_neg e, if_neg e, gd_app1 (by omega)]
        exact q3 k (by omega)
    have d38 : rA z (stC 36 6) (nI i) = nI (en E i).2.2.1 := by
      rw [rA_nI (by omega)]
      show fA z 38 i = _
      rw [fz.row (by decide) (by decide)]
      exact i3
    rw [d38]
    have fin : ∀ w, FTk y w → PgS w E md (es' ++ [i]) → fA w 61 = fA y 61 → j_Wrt_takeEntries_124 post Q 45 (nI c) (nI size) (nI md) (nI i) (nI k) w := fun w w1 w2 w3 => by
      unfold j_Wrt_takeEntries_124
      have m41 : fN w (stC 36 9) = 10000 := ((hLy.tk w1) 41 (by decide)).trans (by decide +kernel)
      refine ⟨36, (w1.2.2.1 45 6 id (fun z => z.1.elim)).trans r6, vi m41, nm_e ?_⟩
      rw [rA_nI (by omega), nI_1]
      refine ih _ _ _ _ _ _ _ ⟨rfl, rfl, rfl, rfl, k + 1, rfl, by omega, FTk.trans y1 w1, ?_, ?_, w3.trans y4⟩ (by rw [nI_clamp (by omega), nI_clamp (by omega)]; omega)
      · rw [tk, ← List.append_assoc, hes]
        exact w2
      · show Chn (fA w 41) (fA w 41 i) _
        rw [w1.row (by decide) (by decide)]
        exact z2
    by_cases cm : (en E i).2.2.1 = md
    · refine bn_t (by rw [cm]) ⟨36, (fz.2.2.1 45 6 id (fun z => z.1.elim)).trans r6, vi ((fz.n (by decide)).trans n39), ?_⟩
      rw [z12]
      refine ⟨vp_in_nI (by rw [show fN z (stC 45 10) = fN y (stC 45 10) from fz.n (by decide)]; omega) (by rw [show fN z (stC 45 10) = fN y (stC 45 10) from fz.n (by decide)]; omega), nm_e ?_⟩
      have w39 : rL z (stC 36 7) (nI i) = fL y 39 i := by rw [rL_nI (by omega)]; show fL z 39 i = _; rw [zL]
      rw [w39, show fI (setL z (stC 45 10) (nI (vs E md es').length) (fL y 39 i)) 45 12 = nI (vs E md es').length from z12, nI_1]
      have ev : vs E md (es' ++ [i]) = vs E md es' ++ [i] := by rw [vs_app, if_pos cm]
      have lv' : (vs E md es' ++ [i]).length = (vs E md es').length + 1 := by rw [List.length_append]; rfl
      refine nm_e (fin _ (FTk.trans fz (FTk.trans FTk.l (FTk.i (Or.inr rfl)))) ⟨by rw [gI_ne (by decide), l']; exact z11, by omega, lev, by rw [gI_at, ev, lv'], fun j hj => ?_⟩ z61)
      rw [ev] at hj ⊢
      show fL (setL z 64 (nI (vs E md es').length) (fL y 39 i)) 64 j = fL (setL z 64 (nI (vs E md es').length) (fL y 39 i)) 39 _
      rw [gL_at, nI_clamp (by omega), show fL (setL z 64 (nI (vs E md es').length) (fL y 39 i)) 39 = fL z 39 from (FTk.l (x := z)).lw (by decide), zL, zL]
      by_cases e : j = (vs E md es').length
      · rw [e, updL_at, gd_app2]
      · rw [updL_ne e, gd_app1 (by omega)]
        exact q5 j (by omega)
    · refine bn_f (fun w => cm (nI_inj (by omega) (by omega) w)) (fin z fz ⟨by rw [l']; exact z11, by omega, lev, ?_, fun j hj => ?_⟩ z61)
      · rw [vs_app, if_neg cm, List.append_nil]; exact z12
      · rw [vs_app, if_neg cm, List.append_nil] at hj ⊢
        rw [zL, zL]
        exact q5 j hj
  · have ek : k = size := by omega
    subst ek
    refine br_t (by (first | omega | (simp (disch := omega) only [Int32.le_iff_toInt_le, Int32.lt_iff_toInt_lt, z_eq, z_in, nI_toInt, z_cl, z_m1, z_sg, z_255, Int32.reduceToInt] <;> omega) | (simp only [Int32.le_iff_toInt_le, Int32.lt_iff_toInt_lt, z_eq, z_in, z_add, z_sub, z_mul, z_neg, z_nI, z_cl, z_sg, z_255, z_lit, Int32.reduceToInt] <;> omega))) ?_
    unfold j_Wrt_takeEntries_142
    refine ⟨vp_in_nI (by rw [e61 hLy]; exact hc) (by rw [e61 hLy]; decide), nm_e (p _ (FTk.trans y1 (FTk.a (r := 61) (Or.inl rfl))) ?_ ?_ (fun d hd => ?_))⟩
    · obtain ⟨q1, q2, q3, q4, q5⟩ := y2
      exact ⟨q1, q2, fun k hk => by
        show fA (setA y 61 _ _) 62 k = _ ∧ fA (setA y 61 _ _) 63 k = _
        rw [gA_ne (by decide), gA_ne (by decide)]; exact q3 k hk, q4, q5⟩
    · show Chn (fA (setA y 61 _ _) 41) (fA (setA y 61 (nI c) _) 61 c) _
      rw [gA_ne (by decide), gA_at, nI_clamp (by omega), upd_at]
      exact y3
    · show fA (setA y 61 (nI c) _) 61 d = _
      rw [gA_at, nI_clamp (by omega), upd_ne hd, y4]
