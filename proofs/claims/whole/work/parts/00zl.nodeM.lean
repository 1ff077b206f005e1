/-! the model: required fields, nodes -/
theorem missF_s {F : List SFd} {g : Int32} {a f : Nat} (h : a ≤ f) : missF F g a (f + 1) = (missF F g a f || decide (fPa F f = g ∧ fKd F f = 0)) := by
  by_cases c : missF F g a f = true
  · rw [c, Bool.true_or, missF_iff]
    obtain ⟨b, b1, b2, b3⟩ := missF_iff.mp c
    exact ⟨b, b1, by omega, b3⟩
  · rw [bt_f c, Bool.false_or]
    by_cases d : fPa F f = g ∧ fKd F f = 0
    · rw [decide_eq_true d, missF_iff]
      exact ⟨f, h, by omega, d⟩
    · rw [decide_eq_false d]
      refine bt_f (fun z => ?_)
      obtain ⟨b, b1, b2, b3⟩ := missF_iff.mp z
      by_cases e : b = f
      · rw [e] at b3; exact d b3
      · exact c (missF_iff.mpr ⟨b, b1, by omega, b3⟩)
theorem missF_0 {F : List SFd} {g : Int32} {a b : Nat} (h : b ≤ a) : missF F g a b = false := by
  refine bt_f (fun z => ?_)
  obtain ⟨f, b1, b2, b3⟩ := missF_iff.mp z
  omega
theorem s_misses {post : Int32 → St → Prop} {x : St} {F : List SFd} {g : Int32} {a b : Nat} (hL : LM x) (h : RepM x 0 F) (hw : WfS F) (hb : b ≤ F.length) (ha : a ≤ 1000) (p : post (if missF F g a b = true then 1 else 0) x) : wp_Mod_misses post g (nI a) (nI b) x := by
  have hF := hw.1
  have l5 : fN x 5 = 384 := hL 5
  have l3 : fN x 3 = 384 := hL 3
  have p0 : ∀ f, (128 : Int32) * 0 + nI f = nI f := fun f => by rw [Int32.mul_zero, Int32.zero_add]
  unfold wp_Mod_misses
  refine lp_Mod_misses_6 (fun a0 a1 a2 a3 a4 y => g = a0 ∧ nI b = a2 ∧ x = y ∧ ∃ f, a ≤ f ∧ (f ≤ b ∨ f = a) ∧ nI f = a4 ∧ (if missF F g a f = true then 1 else 0) = a3) (fun _ _ _ _ a4 _ => b - a4.toNatClampNeg) ?_ _ _ _ _ _ _ ⟨rfl, rfl, rfl, a, Nat.le_refl _, Or.inr rfl, rfl, by rw [missF_0 (Nat.le_refl _)]; rfl⟩
  rintro R a0 a1 a2 a3 a4 y ⟨rfl, rfl, rfl, f, f1, f2, rfl, rfl⟩ ih
  have hf : f ≤ 1000 := by omega
  unfold j_Mod_misses_6
  by_cases c : f < b
  · have next : ∀ v : Int32, (if missF F g a (f + 1) = true then 1 else 0) = v → ∀ l4, j_Mod_misses_51 post R g a1 (nI b) l4 (nI f) v x := by
      intro v hv l4
      unfold j_Mod_misses_51
      rw [nI_1]
      refine ih _ _ _ _ _ _ ⟨rfl, rfl, rfl, f + 1, by omega, Or.inl (by omega), rfl, hv⟩ ?_
      show b - (nI (f + 1)).toNatClampNeg < b - (nI f).toNatClampNeg
      rw [nI_clamp (by omega), nI_clamp (by omega)]
      omega
    refine br_f (by (first | omega | (simp (disch := omega) only [Int32.le_iff_toInt_le, Int32.lt_iff_toInt_lt, z_eq, z_in, nI_toInt, z_cl, z_m1, z_sg, z_255, Int32.reduceToInt] <;> omega) | (simp only [Int32.le_iff_toInt_le, Int32.lt_iff_toInt_lt, z_eq, z_in, z_add, z_sub, z_mul, z_neg, z_nI, z_cl, z_sg, z_255, z_lit, Int32.reduceToInt] <;> omega))) ?_
    unfold j_Mod_misses_46 j_Mod_misses_50
    by_cases d : missF F g a f = true
    · exact bn_f (by rw [if_pos d]; decide) (next 1 (by rw [missF_s f1, d]; rfl) _)
    · refine bn_t (by rw [if_neg d]) ?_
      have d := bt_f d
      obtain ⟨g1, g2, g3, -⟩ := h.2.2.1 f (by omega)
      rw [show 128 * 0 + f = f by omega] at g1 g3
      unfold wp_Mod_place
      dsimp only
      rw [p0, l5, rA_nI (by omega), g3]
      refine ⟨vp_in_nI (by omega) (by decide), ?_⟩
      by_cases e1 : fPa F f = g
      · refine bn_t e1 ?_
        rw [l3, rA_nI (by omega), g1]
        refine ⟨vp_in_nI (by omega) (by decide), ?_⟩
        by_cases e2 : fKd F f = 0
        · exact bn_t e2 (next 1 (by rw [missF_s f1, decide_eq_true ⟨e1, e2⟩, Bool.or_true]; rfl) _)
        · exact bn_f e2 (next 0 (by rw [missF_s f1, d, decide_eq_false (fun z => e2 z.2)]; rfl) _)
      · exact bn_f e1 (next 0 (by rw [missF_s f1, d, decide_eq_false (fun z => e1 z.1)]; rfl) _)
  · have e : missF F g a f = missF F g a b := by
      rcases f2 with z | z
      · rw [show f = b by omega]
      · rw [z, missF_0 (Nat.le_refl _), missF_0 (by omega)]
    refine br_t (by (first | omega | (simp (disch := omega) only [Int32.le_iff_toInt_le, Int32.lt_iff_toInt_lt, z_eq, z_in, nI_toInt, z_cl, z_m1, z_sg, z_255, Int32.reduceToInt] <;> omega) | (simp only [Int32.le_iff_toInt_le, Int32.lt_iff_toInt_lt, z_eq, z_in, z_add, z_sub, z_mul, z_neg, z_nI, z_cl, z_sg, z_255, z_lit, Int32.reduceToInt] <;> omega))) ⟨?_, ?_⟩
    · split <;> rfl
    · rw [e]; exact p
/-- the nodes: L, and how many bytes were said -/
def NdM (x : St) (L : List SNd) (s : Nat) : Prop := fI x 0 24 = nI L.length ∧ 0 < L.length ∧ fI x 0 25 = nI s ∧
  ∀ i, i < L.length → fA x 13 i = (L.getD i (0, 0, 0, [])).1 ∧ fA x 12 i = (L.getD i (0, 0, 0, [])).2.1 ∧ (0 < i → fL x 17 i = (L.getD i (0, 0, 0, [])).2.2.1 ∧ fA x 15 i = nI (L.getD i (0, 0, 0, [])).2.2.2.length ∧ ∃ t, fA x 14 i = nI t ∧ t + (L.getD i (0, 0, 0, [])).2.2.2.length ≤ s ∧ ∀ j, j < (L.getD i (0, 0, 0, [])).2.2.2.length → fA x 16 (t + j) = (L.getD i (0, 0, 0, [])).2.2.2.getD j 0)
abbrev FrR (x y : St) : Prop := (∀ o k, ¬ (o = 0 ∧ (k = 16 ∨ k = 17 ∨ k = 24 ∨ k = 25)) → y.1 o k = x.1 o k) ∧ (∀ a, ¬ (12 ≤ a ∧ a ≤ 16) → y.2.2.2.1 a = x.2.2.2.1 a) ∧ y.2.1 = x.2.1 ∧ y.2.2.1 = x.2.2.1 ∧ (∀ a, a ≠ 17 → y.2.2.2.2.1 a = x.2.2.2.2.1 a) ∧ y.2.2.2.2.2 = x.2.2.2.2.2
theorem FrR.refl (x : St) : FrR x x := ⟨fun _ _ _ => rfl, fun _ _ => rfl, rfl, rfl, fun _ _ => rfl, rfl⟩
theorem FrR.trans {x y z : St} (h : FrR x y) (k : FrR y z) : FrR x z :=
  ⟨fun o i c => (k.1 o i c).trans (h.1 o i c), fun a c => (k.2.1 a c).trans (h.2.1 a c), k.2.2.1.trans h.2.2.1, k.2.2.2.1.trans h.2.2.2.1, fun a c => (k.2.2.2.2.1 a c).trans (h.2.2.2.2.1 a c), k.2.2.2.2.2.trans h.2.2.2.2.2⟩
theorem FrQ.r {x y : St} (h : FrQ x y) : FrR x y := by
  refine ⟨fun o k c => h.1 o k (fun z => c ⟨z.1, ?_⟩), fun a c => h.2.1 a (fun z => c (by omega)), h.2.2.1, h.2.2.2.1, fun a _ => by rw [h.2.2.2.2], by rw [h.2.2.2.2]⟩
  rcases z.2 with e | e | e
  · exact Or.inl e
  · exact Or.inr (Or.inl e)
  · exact Or.inr (Or.inr (Or.inr e))
theorem FrR.i {x : St} {k : Nat} {v : Int32} (h : k = 16 ∨ k = 17 ∨ k = 24 ∨ k = 25) : FrR x (setI x 0 k v) := by
  refine ⟨fun a b c => ?_, fun _ _ => rfl, rfl, rfl, fun _ _ => rfl, rfl⟩
  show (if a = 0 ∧ b = k then v else x.1 a b) = _
  rw [if_neg (fun z => c ⟨z.1, by rw [z.2]; exact h⟩)]
theorem FrR.a {x : St} {r : Nat} {i v : Int32} (h : 12 ≤ r ∧ r ≤ 16) : FrR x (setA x r i v) :=
  ⟨fun _ _ _ => rfl, fun a c => gA_ne (fun z => c (by rw [z]; exact h)), rfl, rfl, fun _ _ => rfl, rfl⟩
theorem FrR.l {x : St} {i : Int32} {v : Int64} : FrR x (setL x 17 i v) := by
  refine ⟨fun _ _ _ => rfl, fun _ _ => rfl, rfl, rfl, fun a c => ?_, rfl⟩
  show (if a = 17 then _ else x.2.2.2.2.1 a) = _
  rw [if_neg c]
theorem TxM.r {x y : St} {T : Nat → Int32} {n : Nat} (h : TxM x T n) (f : FrR x y) : TxM y T n := by
  obtain ⟨h1, h2, h3, h4⟩ := h
  refine ⟨(f.1 0 15 (by omega)).trans h1, h2, ?_, fun i hi => ⟨?_, (h4 i hi).2⟩⟩
  · show y.2.2.2.2.2 2 = _
    rw [f.2.2.2.2.2]
    exact h3
  · show y.2.2.2.1 2 i = _
    rw [f.2.1 2 (by omega)]
    exact (h4 i hi).1
theorem LM.r {x y : St} (h : LM x) (f : FrR x y) : LM y := by
  intro o
  show y.2.2.2.2.2 o = _
  rw [f.2.2.2.2.2]
  exact h o
theorem RepM.r {x y : St} {q : Nat} {F : List SFd} (h : RepM x q F) (f : FrR x y) : RepM y q F := by
  have e : ∀ a, a < 12 → fA y a = fA x a := fun a ha => f.2.1 a (by omega)
  unfold RepM
  rw [e 9 (by decide), e 10 (by decide), e 3 (by decide), e 4 (by decide), e 5 (by decide), e 7 (by decide), e 8 (by decide), e 6 (by decide), e 11 (by decide)]
  exact h
def nd0 : SNd := (0, 0, 0, [])
theorem ndApp {L : List SNd} {z : SNd} {i : Nat} (h : i < L.length) : (L ++ [z]).getD i (0, 0, 0, []) = L.getD i (0, 0, 0, []) := by
  rw [List.getD_eq_getElem?_getD, List.getD_eq_getElem?_getD, List.getElem?_append_left h]
theorem ndNew {L : List SNd} {z : SNd} : (L ++ [z]).getD L.length (0, 0, 0, []) = z := by
  rw [List.getD_eq_getElem?_getD, List.getElem?_append_right (Nat.le_refl _), Nat.sub_self]
  rfl
theorem gL_at {x : St} {o : Nat} {i : Int32} {v : Int64} : fL (setL x o i v) o = vp_updL (fL x o) i.toNatClampNeg v := by
  show (if o = o then _ else _) = _
  rw [if_pos rfl]
theorem updL_at {f : Nat → Int64} {k : Nat} {v : Int64} : vp_updL f k v k = v := by
  show (if k = k then _ else _) = _
  rw [if_pos rfl]
theorem updL_ne {f : Nat → Int64} {k j : Nat} {v : Int64} (h : j ≠ k) : vp_updL f k v j = f j := by
  show (if j = k then _ else _) = _
  rw [if_neg h]
/-- one more node, without bytes so far -/
theorem s_node {post : Int32 → St → Prop} {x : St} {L : List SNd} {s : Nat} {p f : Int32} {v : Int64} (hL : LM x) (h : NdM x L s) (hb : L.length < 4100) (hs : s < 2 ^ 31)
    (q : ∀ y, FrR x y → fI y 0 16 = fI x 0 16 → fI y 0 17 = fI x 0 17 → fA y 16 = fA x 16 → NdM y (L ++ [(p, f, v, [])]) s → fA y 14 L.length = nI s → post (nI L.length) y) : wp_Mod_node post p f v x := by
  obtain ⟨h1, h2, h3, h4⟩ := h
  have hl : (L ++ [(p, f, v, ([] : List Int32))]).length = L.length + 1 := by rw [List.length_append]; rfl
  have cl : (nI L.length).toNatClampNeg = L.length := nI_clamp (by omega)
  unfold wp_Mod_node
  rw [h1]
  refine ⟨by rw [hL 12]; exact vp_in_nI (by show _ < 4100; omega) (by decide), nm_e ⟨?_, nm_r (e' := setA (setA x 12 (nI L.length) f) 13 (nI L.length) p) ?_ ⟨?_, nm_r (e' := setA (setA (setA x 12 (nI L.length) f) 13 (nI L.length) p) 14 (nI L.length) (nI s)) ?_ ⟨?_, nm_r (e' := setA (setA (setA (setA x 12 (nI L.length) f) 13 (nI L.length) p) 14 (nI L.length) (nI s)) 15 (nI L.length) 0) ?_ ⟨?_, nm_r (e' := setL (setA (setA (setA (setA x 12 (nI L.length) f) 13 (nI L.length) p) 14 (nI L.length) (nI s)) 15 (nI L.length) 0) 17 (nI L.length) v) ?_ (nm_r (e' := setI (setL (setA (setA (setA (setA x 12 (nI L.length) f) 13 (nI L.length) p) 14 (nI L.length) (nI s)) 15 (nI L.length) 0) 17 (nI L.length) v) 0 24 (nI (L.length + 1))) ?_ ?_)⟩⟩⟩⟩⟩
  · show vp_in (fI x 0 24) (fN x 13)
    rw [hL 13, h1]; exact vp_in_nI (by show _ < 4100; omega) (by decide)
  · show setA (setA x 12 (nI L.length) f) 13 (fI x 0 24) p = _
    rw [h1]
  · show vp_in (fI x 0 24) (fN x 14)
    rw [hL 14, h1]; exact vp_in_nI (by show _ < 4100; omega) (by decide)
  · show setA (setA (setA x 12 (nI L.length) f) 13 (nI L.length) p) 14 (fI x 0 24) (fI x 0 25) = _
    rw [h1, h3]
  · show vp_in (fI x 0 24) (fN x 15)
    rw [hL 15, h1]; exact vp_in_nI (by show _ < 4100; omega) (by decide)
  · show setA (setA (setA (setA x 12 (nI L.length) f) 13 (nI L.length) p) 14 (nI L.length) (nI s)) 15 (fI x 0 24) 0 = _
    rw [h1]
  · show vp_in (fI x 0 24) (fN x 17)
    rw [hL 17, h1]; exact vp_in_nI (by show _ < 4100; omega) (by decide)
  · show setL (setA (setA (setA (setA x 12 (nI L.length) f) 13 (nI L.length) p) 14 (nI L.length) (nI s)) 15 (nI L.length) 0) 17 (fI x 0 24) v = _
    rw [h1]
  · show setI (setL (setA (setA (setA (setA x 12 (nI L.length) f) 13 (nI L.length) p) 14 (nI L.length) (nI s)) 15 (nI L.length) 0) 17 (nI L.length) v) 0 24 (fI x 0 24 + 1) = _
    rw [h1, nI_1]
  · rw [show fI (setI (setL (setA (setA (setA (setA x 12 (nI L.length) f) 13 (nI L.length) p) 14 (nI L.length) (nI s)) 15 (nI L.length) 0) 17 (nI L.length) v) 0 24 (nI (L.length + 1))) 0 24 = nI (L.length + 1) from rfl, nI_pred]
    refine q _ ?_ rfl rfl rfl ?_ ?_
    · exact ((((FrR.a (by decide)).trans (FrR.a (by decide))).trans (FrR.a (by decide))).trans (FrR.a (by decide))).trans (FrR.l.trans (FrR.i (by decide)))
    · have e12 : fA (setI (setL (setA (setA (setA (setA x 12 (nI L.length) f) 13 (nI L.length) p) 14 (nI L.length) (nI s)) 15 (nI L.length) 0) 17 (nI L.length) v) 0 24 (nI (L.length + 1))) 12 = upd (fA x 12) L.length f := by show upd (fA x 12) (nI L.length).toNatClampNeg f = _; rw [cl]
      have e13 : fA (setI (setL (setA (setA (setA (setA x 12 (nI L.length) f) 13 (nI L.length) p) 14 (nI L.length) (nI s)) 15 (nI L.length) 0) 17 (nI L.length) v) 0 24 (nI (L.length + 1))) 13 = upd (fA x 13) L.length p := by show upd (fA x 13) (nI L.length).toNatClampNeg p = _; rw [cl]
      have e14 : fA (setI (setL (setA (setA (setA (setA x 12 (nI L.length) f) 13 (nI L.length) p) 14 (nI L.length) (nI s)) 15 (nI L.length) 0) 17 (nI L.length) v) 0 24 (nI (L.length + 1))) 14 = upd (fA x 14) L.length (nI s) := by show upd (fA x 14) (nI L.length).toNatClampNeg (nI s) = _; rw [cl]
      have e15 : fA (setI (setL (setA (setA (setA (setA x 12 (nI L.length) f) 13 (nI L.length) p) 14 (nI L.length) (nI s)) 15 (nI L.length) 0) 17 (nI L.length) v) 0 24 (nI (L.length + 1))) 15 = upd (fA x 15) L.length 0 := by show upd (fA x 15) (nI L.length).toNatClampNeg 0 = _; rw [cl]
      have e17 : fL (setI (setL (setA (setA (setA (setA x 12 (nI L.length) f) 13 (nI L.length) p) 14 (nI L.length) (nI s)) 15 (nI L.length) 0) 17 (nI L.length) v) 0 24 (nI (L.length + 1))) 17 = vp_updL (fL x 17) L.length v := by show vp_updL (fL x 17) (nI L.length).toNatClampNeg v = _; rw [cl]
      have e16 : fA (setI (setL (setA (setA (setA (setA x 12 (nI L.length) f) 13 (nI L.length) p) 14 (nI L.length) (nI s)) 15 (nI L.length) 0) 17 (nI L.length) v) 0 24 (nI (L.length + 1))) 16 = fA x 16 := rfl
      refine ⟨by rw [hl]; rfl, by rw [hl]; omega, h3, fun i hi => ?_⟩
      rw [e12, e13, e14, e15, e16, e17]
      rw [hl] at hi
      by_cases c : i = L.length
      · subst c
        rw [ndNew, upd_at, upd_at, upd_at, upd_at, updL_at]
        exact ⟨rfl, rfl, fun _ => ⟨rfl, rfl, s, rfl, Nat.le_refl _, fun j hj => absurd hj (Nat.not_lt_zero j)⟩⟩
      · rw [ndApp (by omega), upd_ne c, upd_ne c, upd_ne c, upd_ne c, updL_ne c]
        exact h4 i (by omega)
    · have e14 : fA (setI (setL (setA (setA (setA (setA x 12 (nI L.length) f) 13 (nI L.length) p) 14 (nI L.length) (nI s)) 15 (nI L.length) 0) 17 (nI L.length) v) 0 24 (nI (L.length + 1))) 14 = upd (fA x 14) L.length (nI s) := by show upd (fA x 14) (nI L.length).toNatClampNeg (nI s) = _; rw [cl]
      rw [e14, upd_at]
