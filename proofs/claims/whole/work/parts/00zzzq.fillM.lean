/-! the model fills a page -/
abbrev pvI (E : List SEn) (i : Nat) : PV := ((en E i).2.2.2.1, (en E i).2.2.2.2)
def pvs (E : List SEn) (l : List Nat) : List PV := l.map (pvI E)
theorem pvd_a1 {P : List PV} {p : PV} {k : Nat} (h : k < P.length) : pvd (P ++ [p]) k = pvd P k := by
  unfold pvd
  rw [List.getD_eq_getElem?_getD, List.getElem?_append_left h, List.getD_eq_getElem?_getD]
theorem pvd_a2 {P : List PV} {p : PV} : pvd (P ++ [p]) P.length = p := by
  unfold pvd
  rw [List.getD_eq_getElem?_getD, List.getElem?_append_right (Nat.le_refl _), Nat.sub_self]
  rfl
theorem oF_a1 {P : List PV} {p : PV} : ∀ k, k ≤ P.length → oF (P ++ [p]) k = oF P k := by
  intro k
  induction k with
  | zero => intro _; rfl
  | succ k ih =>
    intro h
    show oF (P ++ [p]) k + (pvd (P ++ [p]) k).2.length = oF P k + (pvd P k).2.length
    rw [ih (by omega), pvd_a1 (by omega)]
theorem oF_a2 {P : List PV} {p : PV} : oF (P ++ [p]) (P.length + 1) = oF P P.length + p.2.length := by
  show oF (P ++ [p]) P.length + (pvd (P ++ [p]) P.length).2.length = _
  rw [oF_a1 _ (Nat.le_refl _), pvd_a2]
/-- values of a page so far -/
def VaM (x : St) (P : List PV) : Prop := (∀ k, k < P.length → fL x 30 k = (pvd P k).1) ∧ (∀ k, k ≤ P.length → fA x 33 k = nI (oF P k)) ∧ (∀ k j, k < P.length → j < (pvd P k).2.length → fA x 36 (oF P k + j) = (pvd P k).2.getD j 0)
def PgF (x : St) (E : List SEn) (md : Nat) (es : List Nat) : Prop := fI x 0 41 = nI es.length ∧ (∀ k, k < es.length → fA x 26 k = nI (en E (es.getD k 0)).2.1 ∧ fA x 27 k = nI (en E (es.getD k 0)).2.2.1) ∧ fI x 0 42 = nI (pvs E (vs E md es)).length ∧ VaM x (pvs E (vs E md es))
abbrev FrF (x y : St) : Prop := Fg (fun o k => o = 0 ∧ (k = 38 ∨ k = 39 ∨ k = 40 ∨ k = 41 ∨ k = 42)) no2 no2 (fun a => a = 26 ∨ a = 27 ∨ a = 33 ∨ a = 36) (fun a => a = 30) x y
abbrev FrG (x y : St) : Prop := Fg (fun o k => o = 0 ∧ (k = 41 ∨ k = 42)) no2 no2 (fun a => a = 26 ∨ a = 27 ∨ a = 33 ∨ a = 36) (fun a => a = 30) x y
theorem FrG.f {x y : St} (h : FrG x y) : FrF x y := h.mono (fun _ _ z => ⟨z.1, by omega⟩) (fun _ _ z => z) (fun _ _ z => z) (fun _ z => z) (fun _ z => z)
theorem FrF.rc {x y : St} {RS : List (List SEn)} (f : FrF x y) (h : RcM x RS) : RcM y RS := h.cg (fun k hk => f.1 0 k (by omega)) (fun a h1 h2 => f.2.2.2.1 a (by omega)) (f.2.2.2.2.1 25 (by decide))
theorem FrF.lm {x y : St} (f : FrF x y) (h : LM x) : LM y := fun o => by show y.2.2.2.2.2 o = _; rw [f.2.2.2.2.2]; exact h o
theorem pvs_len {E : List SEn} {l : List Nat} : (pvs E l).length = l.length := List.length_map _
theorem pvs_app {E : List SEn} {l : List Nat} {i : Nat} : pvs E (l ++ [i]) = pvs E l ++ [pvI E i] := by
  unfold pvs
  rw [List.map_append]
  rfl
section
variable {x : St} {RS : List (List SEn)}
/-- one more value: its bytes -/
theorem s_valM {post : St → Prop} {rec48 : Int32 → Int32 → Int32 → Int32 → St → Prop} {P : List PV} {i : Nat} {l1 l2 l3 : Int32} (hL : LM x) (h : RcM x RS) (hi : i < RS.flatten.length) (hv : VaM x P) (h42 : fI x 0 42 = nI P.length) (hP : P.length < 1000) (h30 : fL x 30 P.length = (pvI RS.flatten i).1) (h33 : fA x 33 (P.length + 1) = nI (oF P P.length + (pvI RS.flatten i).2.length)) (ho : oF P P.length + (pvI RS.flatten i).2.length ≤ 20000)
    (p : ∀ y, Fg (fun o k => o = 0 ∧ k = 42) no2 no2 (fun a => a = 36) no1 x y → fI y 0 42 = nI (P.length + 1) → VaM y (P ++ [pvI RS.flatten i]) → rec48 l1 l2 l3 (nI (i + 1)) y) : ∃ n : Nat, wl_Mod_fillPage_179 post rec48 n l1 l2 l3 (nI i) 0 x := by
  obtain ⟨h1, h2, -⟩ := h
  obtain ⟨a1, a2, a3, a4, a5, a6, a7⟩ := h1.2.2 i hi
  have hl := h2.1
  have ht := h2.2
  have e21 : fN x 21 = 10000 := hL 21
  have e22 : fN x 22 = 10000 := hL 22
  have e24 : fN x 24 = 60000 := hL 24
  have e33 : fN x 33 = 1001 := hL 33
  have e36 : fN x 36 = 20000 := hL 36
  have tl : tx (RS.flatten.take i) + (pvI RS.flatten i).2.length ≤ 60000 := by
    have q := tx_take (E := RS.flatten) (i := i + 1)
    rw [tk1 hi, tx_app] at q
    have : tx [RS.flatten.getD i en0] = (pvI RS.flatten i).2.length := rfl
    omega
  refine lp_Mod_fillPage_179 (fun b0 b1 b2 b3 b4 y => l1 = b0 ∧ l2 = b1 ∧ l3 = b2 ∧ nI i = b3 ∧ ∃ j, nI j = b4 ∧ j ≤ (pvI RS.flatten i).2.length ∧ Fg (fun o k => o = 0 ∧ k = 42) no2 no2 (fun a => a = 36) no1 x y ∧ fI y 0 42 = nI P.length ∧ (∀ q, q < oF P P.length → fA y 36 q = fA x 36 q) ∧ (∀ q, q < j → fA y 36 (oF P P.length + q) = (pvI RS.flatten i).2.getD q 0)) (fun _ _ _ _ b4 _ => 20001 - b4.toNatClampNeg) ?_ l1 l2 l3 _ _ _ ⟨rfl, rfl, rfl, rfl, 0, rfl, Nat.zero_le _, Fg.refl x, h42, fun _ _ => rfl, fun q hq => absurd hq (Nat.not_lt_zero _)⟩
  rintro Q b0 b1 b2 b3 b4 y ⟨rfl, rfl, rfl, rfl, j, rfl, j1, y1, y2, y3, y4⟩ ih
  have eA : ∀ a, a ≠ 36 → fA y a = fA x a := fun a ha => y1.2.2.2.1 a ha
  have eN : ∀ a, fN y a = fN x a := fun a => by show y.2.2.2.2.2 a = _; rw [y1.2.2.2.2.2]
  have r22 : rA y 22 (nI i) = nI (pvI RS.flatten i).2.length := by rw [rA_nI (by omega), eA 22 (by decide)]; exact a5
  unfold j_Mod_fillPage_179
  refine ⟨by rw [eN]; exact vp_in_nI (by omega) (by omega), ?_⟩
  rw [r22]
  by_cases c : j < (pvI RS.flatten i).2.length
  · have r21 : rA y 21 (nI i) = nI (tx (RS.flatten.take i)) := by rw [rA_nI (by omega), eA 21 (by decide)]; exact a6
    have r33 : rA y 33 (nI P.length) = nI (oF P P.length) := by rw [rA_nI (by omega), eA 33 (by decide)]; exact hv.2.1 _ (Nat.le_refl _)
    refine br_f (by rw [nI_leI (by omega) (by omega)]; omega) ?_
    rw [y2, r21, r33, nI_add, nI_add, nI_1, eN, eN, eN, eN]
    refine ⟨vp_in_nI (by omega) (by omega), vp_in_nI (by omega) (by omega), vp_in_nI (by omega) (by omega), vp_in_nI (by omega) (by omega), nm_e ?_⟩
    have r24 : rA y 24 (nI (tx (RS.flatten.take i) + j)) = (pvI RS.flatten i).2.getD j 0 := by rw [rA_nI (by omega), eA 24 (by decide)]; exact a7 j c
    rw [r24]
    refine ih _ _ _ _ _ _ ⟨rfl, rfl, rfl, rfl, j + 1, rfl, by omega, Fg.trans y1 (Fg.a rfl), y2, fun q hq => ?_, fun q hq => ?_⟩ (by rw [nI_clamp (by omega), nI_clamp (by omega)]; omega)
    · rw [gA_at, nI_clamp (by omega), upd_ne (by omega)]
      exact y3 q hq
    · rw [gA_at, nI_clamp (by omega)]
      by_cases e : q = j
      · rw [e, upd_at]
      · rw [upd_ne (by omega)]
        exact y4 q (by omega)
  · refine br_t (by rw [nI_leI (by omega) (by omega)]; omega) (nm_e ?_)
    unfold j_Mod_fillPage_239
    rw [y2, nI_1, nI_1]
    have ej : j = (pvI RS.flatten i).2.length := by omega
    have hn : (P ++ [pvI RS.flatten i]).length = P.length + 1 := by rw [List.length_append]; rfl
    refine p _ (Fg.trans y1 (Fg.i ⟨rfl, rfl⟩)) gI_at ⟨fun k hk => ?_, fun k hk => ?_, fun k q hk hq => ?_⟩
    · show fL y 30 k = _
      rw [show fL y 30 = fL x 30 from y1.2.2.2.2.1 30 id]
      by_cases e : k = P.length
      · rw [e, pvd_a2]; exact h30
      · rw [pvd_a1 (by omega)]; exact hv.1 k (by omega)
    · show fA y 33 k = _
      rw [eA 33 (by decide)]
      by_cases e : k = P.length + 1
      · rw [e, oF_a2]; exact h33
      · rw [oF_a1 _ (by omega)]; exact hv.2.1 k (by omega)
    · show fA y 36 _ = _
      by_cases e : k = P.length
      · subst e
        rw [pvd_a2] at hq ⊢
        rw [oF_a1 _ (Nat.le_refl _)]
        exact y4 q (by omega)
      · have hk' : k < P.length := by omega
        rw [pvd_a1 hk'] at hq ⊢
        rw [oF_a1 _ (by omega)]
        have := oF_le (P := P) (show k + 1 ≤ P.length by omega)
        have e2 : oF P (k + 1) = oF P k + (pvd P k).2.length := rfl
        rw [y3 _ (by omega)]
        exact hv.2.2 k q hk' hq
theorem s_fillL {post : St → Prop} {c r e md : Nat} (hL : LM x) (h : RcM x RS) (hc : c < 64) (hr : r ≤ e) (he : e ≤ RS.length) (hcl : ∀ i, i < RS.flatten.length → (en RS.flatten i).1 < 64 ∧ (en RS.flatten i).2.2.1 < 128) (hmd : md < 128) (h40 : fI x 0 40 = nI md) (h0 : PgF x RS.flatten md []) (hn : (sg RS.flatten c (RS.take r).flatten.length ((RS.take e).flatten.length - (RS.take r).flatten.length)).length ≤ 1000) (ho : txI RS.flatten (sg RS.flatten c (RS.take r).flatten.length ((RS.take e).flatten.length - (RS.take r).flatten.length)) ≤ 20000)
    (p : ∀ y, FrG x y → PgF y RS.flatten md (sg RS.flatten c (RS.take r).flatten.length ((RS.take e).flatten.length - (RS.take r).flatten.length)) → post y) : ∃ n : Nat, wl_Mod_fillPage_48 post n (nI c) (nI r) (nI e) (nI (RS.take r).flatten.length) x := by
  have m1 := rw_mono (RS := RS) hr
  have m2 := rw_le (RS := RS) (i := e)
  have hl := h.2.1.1
  have h5e := h.2.2.2.2 e he
  have h4 := h.2.2.2.1
  generalize ha : (RS.take r).flatten.length = a at *
  generalize hb : (RS.take e).flatten.length = b at *
  refine lp_Mod_fillPage_48 (fun b0 b1 b2 b3 y => nI c = b0 ∧ nI e = b2 ∧ ∃ d, nI (a + d) = b3 ∧ a + d ≤ b ∧ FrG x y ∧ PgF y RS.flatten md (sg RS.flatten c a d)) (fun _ _ _ b3 _ => b - b3.toNatClampNeg) ?_ _ _ _ _ _ ⟨rfl, rfl, 0, rfl, by omega, Fg.refl x, h0⟩
  rintro Q b0 b1 b2 b3 y ⟨rfl, rfl, d, rfl, d1, y1, y2⟩ ih
  have hLy := y1.f.lm hL
  have hRy := y1.f.rc h
  have e23 : fN y 23 = 2001 := hLy 23
  unfold j_Mod_fillPage_48
  refine ⟨vp_in_nI (by omega) (by omega), ?_⟩
  have r23 : rA y 23 (nI e) = nI b := by
    rw [rA_nI (by omega)]
    show y.2.2.2.1 23 e = _
    rw [y1.2.2.2.1 23 (by decide)]
    exact h5e
  rw [r23]
  by_cases cd : a + d < b
  · refine br_f (by (first | omega | (simp (disch := omega) only [Int32.le_iff_toInt_le, Int32.lt_iff_toInt_lt, z_eq, z_in, nI_toInt, z_cl, z_m1, z_sg, z_255, Int32.reduceToInt] <;> omega) | (simp only [Int32.le_iff_toInt_le, Int32.lt_iff_toInt_lt, z_eq, z_in, z_add, z_sub, z_mul, z_neg, z_nI, z_cl, z_sg, z_255, z_lit, Int32.reduceToInt] <;> omega))) ?_
    obtain ⟨a1, a2, a3, a4, a5, a6, a7⟩ := hRy.1.2.2 (a + d) (by omega)
    have lt := hcl (a + d) (by omega)
    have e18 : fN y 18 = 10000 := hLy 18
    have e19 : fN y 19 = 10000 := hLy 19
    have e20 : fN y 20 = 10000 := hLy 20
    have e22 : fN y 22 = 10000 := hLy 22
    have e25 : fN y 25 = 10000 := hLy 25
    have e26 : fN y 26 = 1000 := hLy 26
    have e27 : fN y 27 = 1000 := hLy 27
    have e30 : fN y 30 = 1000 := hLy 30
    have e33 : fN y 33 = 1001 := hLy 33
    refine ⟨vp_in_nI (by omega) (by omega), ?_⟩
    rw [rA_nI (by omega), a1]
    by_cases z : (en RS.flatten (a + d)).1 = c
    · have es1 : sg RS.flatten c a (d + 1) = sg RS.flatten c a d ++ [a + d] := by
        show sg RS.flatten c a d ++ _ = _
        rw [if_pos z]
      -- bounds
      have mono : ∀ q, d + 1 ≤ q → (sg RS.flatten c a (d + 1)).length ≤ (sg RS.flatten c a q).length ∧ txI RS.flatten (sg RS.flatten c a (d + 1)) ≤ txI RS.flatten (sg RS.flatten c a q) := by
        intro q hq
        induction q with
        | zero => omega
        | succ q ihq =>
          by_cases w : d + 1 = q + 1
          · rw [w]; exact ⟨Nat.le_refl _, Nat.le_refl _⟩
          · have ih2 := ihq (by omega)
            show _ ≤ (sg RS.flatten c a q ++ _).length ∧ _ ≤ txI RS.flatten (sg RS.flatten c a q ++ _)
            split
            · rw [txI_app, List.length_append]; exact ⟨Nat.le_trans ih2.1 (Nat.le_add_right _ _), Nat.le_trans ih2.2 (Nat.le_add_right _ _)⟩
            · rw [List.append_nil]; exact ih2
      have mm := mono (b - a) (by omega)
      have l1' : (sg RS.flatten c a (d + 1)).length = (sg RS.flatten c a d).length + 1 := by rw [es1, List.length_append]; rfl
      have vle := vs_le (E := RS.flatten) (md := md) (es := sg RS.flatten c a d)
      have vtx : ∀ l : List Nat, oF (pvs RS.flatten (vs RS.flatten md l)) (pvs RS.flatten (vs RS.flatten md l)).length ≤ txI RS.flatten l := by
        intro l
        have : ∀ (q : Nat) (l : List Nat), l.length = q → oF (pvs RS.flatten (vs RS.flatten md l)) (pvs RS.flatten (vs RS.flatten md l)).length ≤ txI RS.flatten l := by
          intro q
          induction q with
          | zero =>
            intro l hl
            rw [List.length_eq_zero_iff.mp hl]
            exact Nat.le_refl _
          | succ q ihq =>
            intro l hl
            have hne : l ≠ [] := fun w => by rw [w] at hl; exact absurd hl (by simp)
            rw [← List.dropLast_concat_getLast hne]
            have ih3 := ihq l.dropLast (by rw [List.length_dropLast]; omega)
            rw [txI_app, vs_app]
            split
            · rw [pvs_app]
              have hh : (pvs RS.flatten (vs RS.flatten md l.dropLast) ++ [pvI RS.flatten (l.getLast hne)]).length = (pvs RS.flatten (vs RS.flatten md l.dropLast)).length + 1 := by rw [List.length_append]; rfl
              rw [hh, oF_a2]
              show _ + (en RS.flatten (l.getLast hne)).2.2.2.2.length ≤ _
              omega
            · rw [List.append_nil]; omega
        exact this _ l rfl
      have vtx1 := vtx (sg RS.flatten c a d)
      have tx1 : txI RS.flatten (sg RS.flatten c a (d + 1)) = txI RS.flatten (sg RS.flatten c a d) + (en RS.flatten (a + d)).2.2.2.2.length := by rw [es1, txI_app]
      obtain ⟨q1, q3, q4, q5⟩ := y2
      generalize hes : sg RS.flatten c a d = es' at *
      have nx : ∀ w, FrG x w → PgF w RS.flatten md (es' ++ [a + d]) → Q (nI c) b1 (nI e) (nI (a + d + 1)) w := fun w w1 w2 => ih _ _ _ _ _ ⟨rfl, rfl, d + 1, rfl, by omega, w1, by rw [es1]; exact w2⟩ (by rw [nI_clamp (by omega), nI_clamp (by omega)]; omega)
      refine br_t (by rw [z]) ⟨vp_in_nI (by omega) (by omega), ?_⟩
      rw [q1]
      refine ⟨vp_in_nI (by omega) (by omega), nm_e ⟨vp_in_nI (by show _ < fN y 19; omega) (by show fN y 19 < _; omega), ?_⟩⟩
      rw [show fI (setA y 26 (nI es'.length) (rA y 18 (nI (a + d)))) 0 41 = nI es'.length from q1]
      refine ⟨vp_in_nI (by show _ < fN y 27; omega) (by show fN y 27 < _; omega), nm_e ?_⟩
      have w18 : rA y 18 (nI (a + d)) = nI (en RS.flatten (a + d)).2.1 := by rw [rA_nI (by omega)]; exact a2
      have w19 : rA (setA y 26 (nI es'.length) (nI (en RS.flatten (a + d)).2.1)) 19 (nI (a + d)) = nI (en RS.flatten (a + d)).2.2.1 := by
        rw [rA_nI (by omega), gA_ne (by decide)]; exact a3
      rw [w18, w19, show fI (setA (setA y 26 (nI es'.length) (nI (en RS.flatten (a + d)).2.1)) 27 (nI es'.length) (nI (en RS.flatten (a + d)).2.2.1)) 0 41 = nI es'.length from q1, nI_1]
      refine nm_e ?_
      have hz : ∃ t, t = setI (setA (setA y 26 (nI es'.length) (nI (en RS.flatten (a + d)).2.1)) 27 (nI es'.length) (nI (en RS.flatten (a + d)).2.2.1)) 0 41 (nI (es'.length + 1)) := ⟨_, rfl⟩
      obtain ⟨t, ez⟩ := hz
      rw [← ez]
      have ft : FrG y t := by rw [ez]; exact Fg.trans (Fg.a (Or.inl rfl)) (Fg.trans (Fg.a (Or.inr (Or.inl rfl))) (Fg.i ⟨rfl, by decide⟩))
      have t41 : fI t 0 41 = nI (es'.length + 1) := by rw [ez]; exact gI_at
      have t42 : fI t 0 42 = nI (pvs RS.flatten (vs RS.flatten md es')).length := by rw [ez, gI_ne (by decide)]; exact q4
      have t40 : fI t 0 40 = nI md := (ft.1 0 40 (by decide)).trans ((y1.1 0 40 (by decide)).trans h40)
      have tA : ∀ r, ¬ (r = 26 ∨ r = 27 ∨ r = 33 ∨ r = 36) → fA t r = fA y r := fun r hr => ft.2.2.2.1 r hr
      have tA2 : fA t 33 = fA y 33 ∧ fA t 36 = fA y 36 := by
        rw [ez]
        exact ⟨(gA_ne (by decide)).trans (gA_ne (by decide)), (gA_ne (by decide)).trans (gA_ne (by decide))⟩
      have tL : ∀ r, fL t r = fL y r := fun r => by rw [ez]; rfl
      have tN : ∀ r, fN t r = fN y r := fun r => by rw [ez]; rfl
      have l' : (es' ++ [a + d]).length = es'.length + 1 := by rw [List.length_append]; rfl
      have lev : ∀ k, k < (es' ++ [a + d]).length → fA t 26 k = nI (en RS.flatten ((es' ++ [a + d]).getD k 0)).2.1 ∧ fA t 27 k = nI (en RS.flatten ((es' ++ [a + d]).getD k 0)).2.2.1 := fun k hk => by
        rw [ez]
        show fA (setA (setA y 26 _ _) 27 _ _) 26 k = _ ∧ fA (setA (setA y 26 _ _) 27 _ _) 27 k = _
        rw [gA_ne (by decide), gA_at, gA_at, gA_ne (by decide), nI_clamp (by omega)]
        by_cases w : k = es'.length
        · rw [w, upd_at, upd_at, gd_app2]
          exact ⟨rfl, rfl⟩
        · rw [upd_ne w, upd_ne w, gd_app1 (by omega)]
          exact q3 k (by omega)
      have hva : VaM t (pvs RS.flatten (vs RS.flatten md es')) := by
        obtain ⟨v1, v2, v3⟩ := q5
        refine ⟨fun k hk => ?_, fun k hk => ?_, fun k j hk hj => ?_⟩
        · rw [tL]; exact v1 k hk
        · rw [tA2.1]; exact v2 k hk
        · rw [tA2.2]; exact v3 k j hk hj
      have r19 : rA t 19 (nI (a + d)) = nI (en RS.flatten (a + d)).2.2.1 := by rw [rA_nI (by omega), tA 19 (by decide)]; exact a3
      refine ⟨by rw [tN]; exact vp_in_nI (by omega) (by omega), ?_⟩
      rw [r19, t40]
      by_cases cm : (en RS.flatten (a + d)).2.2.1 = md
      · have ev : vs RS.flatten md (es' ++ [a + d]) = vs RS.flatten md es' ++ [a + d] := by rw [vs_app, if_pos cm]
        have pl := pvs_len (E := RS.flatten) (l := vs RS.flatten md es')
        have lenO : oF (pvs RS.flatten (vs RS.flatten md es')) (pvs RS.flatten (vs RS.flatten md es')).length + (pvI RS.flatten (a + d)).2.length ≤ 20000 := by
          show _ + (en RS.flatten (a + d)).2.2.2.2.length ≤ _
          omega
        refine br_t (by rw [cm]) ⟨by rw [tN]; exact vp_in_nI (by omega) (by omega), ?_⟩
        rw [t42]
        refine ⟨by rw [tN]; exact vp_in_nI (by omega) (by omega), nm_e ?_⟩
        have r25 : rL t 25 (nI (a + d)) = (pvI RS.flatten (a + d)).1 := by rw [rL_nI (by omega), tL]; exact a4
        rw [r25, show fI (setL t 30 (nI (pvs RS.flatten (vs RS.flatten md es')).length) (pvI RS.flatten (a + d)).1) 0 42 = nI (pvs RS.flatten (vs RS.flatten md es')).length from t42, nI_1]
        refine ⟨vp_in_nI (by show _ < fN t 33; rw [tN]; omega) (by show fN t 33 < _; rw [tN]; omega), vp_in_nI (by show _ < fN t 22; rw [tN]; omega) (by show fN t 22 < _; rw [tN]; omega), vp_in_nI (by show _ < fN t 33; rw [tN]; omega) (by show fN t 33 < _; rw [tN]; omega), ?_⟩
        have r33 : rA (setL t 30 (nI (pvs RS.flatten (vs RS.flatten md es')).length) (pvI RS.flatten (a + d)).1) 33 (nI (pvs RS.flatten (vs RS.flatten md es')).length) = nI (oF (pvs RS.flatten (vs RS.flatten md es')) (pvs RS.flatten (vs RS.flatten md es')).length) := by
          rw [rA_nI (by omega)]
          exact hva.2.1 _ (Nat.le_refl _)
        have r22 : rA (setL t 30 (nI (pvs RS.flatten (vs RS.flatten md es')).length) (pvI RS.flatten (a + d)).1) 22 (nI (a + d)) = nI (pvI RS.flatten (a + d)).2.length := by
          rw [rA_nI (by omega)]
          show fA t 22 _ = _
          rw [tA 22 (by decide)]; exact a5
        rw [r33, r22, nI_add]
        refine nm_e ?_
        generalize hPP : pvs RS.flatten (vs RS.flatten md es') = PP at *
        have hu : ∃ u, u = setA (setL t 30 (nI PP.length) (pvI RS.flatten (a + d)).1) 33 (nI (PP.length + 1)) (nI (oF PP PP.length + (pvI RS.flatten (a + d)).2.length)) := ⟨_, rfl⟩
        obtain ⟨u, eu⟩ := hu
        rw [← eu]
        have fu : FrG t u := by rw [eu]; exact Fg.trans (Fg.l rfl) (Fg.a (by decide))
        have fxu : FrG x u := Fg.trans y1 (Fg.trans ft fu)
        refine s_valM (RS := RS) (P := PP) (i := a + d) (fxu.f.lm hL) (fxu.f.rc h) (by omega) ⟨fun k hk => ?_, fun k hk => ?_, fun k j hk hj => ?_⟩ (by rw [eu]; exact t42) (by omega) ?_ ?_ lenO (fun w w1 w2 w3 => nx w (Fg.trans fxu (w1.mono (fun _ _ z => ⟨z.1, Or.inr z.2⟩) (fun _ _ z => z) (fun _ _ z => z) (fun _ z => by omega) (fun _ z => z.elim))) ⟨?_, fun k hk => ?_, ?_, ?_⟩)
        · rw [eu]
          show fL (setL t 30 _ _) 30 k = _
          rw [gL_at, nI_clamp (by omega), updL_ne (by omega)]
          exact hva.1 k hk
        · rw [eu, gA_at, nI_clamp (by omega), upd_ne (by omega)]
          exact hva.2.1 k hk
        · rw [eu, gA_ne (by decide)]
          exact hva.2.2 k j hk hj
        · rw [eu]
          show fL (setL t 30 _ _) 30 _ = _
          rw [gL_at, nI_clamp (by omega), updL_at]
        · rw [eu, gA_at, nI_clamp (by omega), upd_at]
        · rw [l']
          exact (w1.1 0 41 (by decide)).trans (by rw [eu]; exact t41)
        · have b1 : fA w 26 = fA t 26 := (w1.2.2.2.1 26 (by decide)).trans (by show fA u 26 = _; rw [eu, gA_ne (by decide)]; rfl)
          have b2 : fA w 27 = fA t 27 := (w1.2.2.2.1 27 (by decide)).trans (by show fA u 27 = _; rw [eu, gA_ne (by decide)]; rfl)
          rw [b1, b2]
          exact lev k hk
        · rw [ev, pvs_app, hPP, List.length_append]
          exact w2
        · rw [ev, pvs_app, hPP]
          exact w3
      · refine br_f (fun w => cm (nI_inj (by omega) (by omega) w)) ?_
        unfold j_Mod_fillPage_239
        rw [nI_1]
        have ev : vs RS.flatten md (es' ++ [a + d]) = vs RS.flatten md es' := by rw [vs_app, if_neg cm, List.append_nil]
        exact nx t (Fg.trans y1 ft) ⟨by rw [l']; exact t41, lev, by rw [ev]; exact t42, by rw [ev]; exact hva⟩
    · refine br_f (fun w => z (nI_inj (by omega) (by omega) w)) ?_
      unfold j_Mod_fillPage_239
      rw [nI_1]
      refine ih _ _ _ _ _ ⟨rfl, rfl, d + 1, rfl, by omega, y1, ?_⟩ (by rw [nI_clamp (by omega), nI_clamp (by omega)]; omega)
      have : sg RS.flatten c a (d + 1) = sg RS.flatten c a d := by
        show sg RS.flatten c a d ++ _ = _
        rw [if_neg z, List.append_nil]
      rw [this]
      exact y2
  · refine br_t (by (first | omega | (simp (disch := omega) only [Int32.le_iff_toInt_le, Int32.lt_iff_toInt_lt, z_eq, z_in, nI_toInt, z_cl, z_m1, z_sg, z_255, Int32.reduceToInt] <;> omega) | (simp only [Int32.le_iff_toInt_le, Int32.lt_iff_toInt_lt, z_eq, z_in, z_add, z_sub, z_mul, z_neg, z_nI, z_cl, z_sg, z_255, z_lit, Int32.reduceToInt] <;> omega))) (p y y1 ?_)
    rw [show b - a = d by omega]
    exact y2
end
