/-! the model: entries -/
def EnA (x : St) (E : List SEn) (i : Nat) : Prop := fA x 20 i = nI (E.getD i en0).1 ∧ fA x 18 i = nI (E.getD i en0).2.1 ∧ fA x 19 i = nI (E.getD i en0).2.2.1 ∧ fL x 25 i = (E.getD i en0).2.2.2.1 ∧ fA x 22 i = nI (E.getD i en0).2.2.2.2.length ∧ fA x 21 i = nI (tx (E.take i)) ∧ ∀ j, j < (E.getD i en0).2.2.2.2.length → fA x 24 (tx (E.take i) + j) = (E.getD i en0).2.2.2.2.getD j 0
def EnM (x : St) (E : List SEn) : Prop := fI x 0 35 = nI E.length ∧ fI x 0 36 = nI (tx E) ∧ ∀ i, i < E.length → EnA x E i
def OkE (E : List SEn) : Prop := E.length ≤ 10000 ∧ tx E ≤ 60000
/-- nothing but entries from e0 on, their texts from t0 on has changed -/
def FrE (e0 t0 : Nat) (x y : St) : Prop := (∀ o k, ¬ (o = 0 ∧ (k = 35 ∨ k = 36 ∨ k = 37)) → y.1 o k = x.1 o k) ∧ y.2.1 = x.2.1 ∧ y.2.2.1 = x.2.2.1 ∧ (∀ a, ¬ (18 ≤ a ∧ a ≤ 24 ∧ a ≠ 23) → y.2.2.2.1 a = x.2.2.2.1 a) ∧ (∀ a i, i < (if a = 24 then t0 else e0) → y.2.2.2.1 a i = x.2.2.2.1 a i) ∧ (∀ a, a ≠ 25 → y.2.2.2.2.1 a = x.2.2.2.2.1 a) ∧ (∀ i, i < e0 → y.2.2.2.2.1 25 i = x.2.2.2.2.1 25 i) ∧ y.2.2.2.2.2 = x.2.2.2.2.2
theorem FrE.refl (e0 t0 : Nat) (x : St) : FrE e0 t0 x x := ⟨fun _ _ _ => rfl, rfl, rfl, fun _ _ => rfl, fun _ _ _ => rfl, fun _ _ => rfl, fun _ _ => rfl, rfl⟩
theorem FrE.trans {e0 t0 : Nat} {x y z : St} (h : FrE e0 t0 x y) (k : FrE e0 t0 y z) : FrE e0 t0 x z := by
  obtain ⟨h1, h2, h3, h4, h5, h6, h7, h8⟩ := h
  obtain ⟨k1, k2, k3, k4, k5, k6, k7, k8⟩ := k
  exact ⟨fun o i c => (k1 o i c).trans (h1 o i c), k2.trans h2, k3.trans h3, fun a c => (k4 a c).trans (h4 a c), fun a i c => (k5 a i c).trans (h5 a i c), fun a c => (k6 a c).trans (h6 a c), fun i c => (k7 i c).trans (h7 i c), k8.trans h8⟩
theorem FrE.i {e0 t0 : Nat} {x : St} {k : Nat} {v : Int32} (h : k = 35 ∨ k = 36 ∨ k = 37) : FrE e0 t0 x (setI x 0 k v) := by
  refine ⟨fun o j c => ?_, rfl, rfl, fun _ _ => rfl, fun _ _ _ => rfl, fun _ _ => rfl, fun _ _ => rfl, rfl⟩
  show (if o = 0 ∧ j = k then v else x.1 o j) = _
  rw [if_neg (fun z => c ⟨z.1, by rw [z.2]; exact h⟩)]
theorem FrE.a {e0 t0 r i : Nat} {x : St} {v : Int32} (h : 18 ≤ r ∧ r ≤ 24 ∧ r ≠ 23) (hi : (if r = 24 then t0 else e0) ≤ i) (hb : i < 2 ^ 31) : FrE e0 t0 x (setA x r (nI i) v) := by
  refine ⟨fun _ _ _ => rfl, rfl, rfl, fun a c => gA_ne (fun z => c (by omega)), fun a j c => ?_, fun _ _ => rfl, fun _ _ => rfl, rfl⟩
  show fA (setA x r (nI i) v) a j = _
  by_cases d : a = r
  · subst d
    rw [gA_at, nI_clamp hb, upd_ne (by omega)]
  · rw [gA_ne d]
theorem FrE.l {e0 t0 i : Nat} {x : St} {v : Int64} (hi : e0 ≤ i) (hb : i < 2 ^ 31) : FrE e0 t0 x (setL x 25 (nI i) v) := by
  refine ⟨fun _ _ _ => rfl, rfl, rfl, fun _ _ => rfl, fun _ _ _ => rfl, fun a c => ?_, fun j c => ?_, rfl⟩
  · show (if a = 25 then _ else x.2.2.2.2.1 a) = _
    rw [if_neg c]
  · show fL (setL x 25 (nI i) v) 25 j = _
    rw [gL_at, nI_clamp hb, updL_ne (by omega)]
theorem FrE.low {e0 t0 e1 t1 : Nat} {x y : St} (h : FrE e1 t1 x y) (he : e0 ≤ e1) (ht : t0 ≤ t1) : FrE e0 t0 x y :=
  ⟨h.1, h.2.1, h.2.2.1, h.2.2.2.1, fun a i c => h.2.2.2.2.1 a i (by split at c <;> rename_i d <;> (first | rw [if_pos d] | rw [if_neg d]) <;> omega), h.2.2.2.2.2.1, fun i c => h.2.2.2.2.2.2.1 i (by omega), h.2.2.2.2.2.2.2⟩
theorem tx_take {E : List SEn} {i : Nat} : tx (E.take i) ≤ tx E := by
  have := tx_app (E.take i) (E.drop i)
  rw [List.take_append_drop] at this
  omega
theorem tx_at {E : List SEn} {i : Nat} (h : i < E.length) : tx (E.take i) + (E.getD i en0).2.2.2.2.length ≤ tx E := by
  have e := tk1 h
  have := @tx_take E (i + 1)
  rw [e, tx_app] at this
  have z : tx [E.getD i en0] = (E.getD i en0).2.2.2.2.length + 0 := rfl
  omega
theorem EnA.fr {x y : St} {E : List SEn} {i e0 t0 : Nat} (h : EnA x E i) (hi : i < E.length) (f : FrE e0 t0 x y) (he : E.length ≤ e0) (ht : tx E ≤ t0) : EnA y E i := by
  have hb := tx_at hi
  obtain ⟨h1, h2, h3, h4, h5, h6, h7⟩ := h
  have eA : ∀ a, a ≠ 24 → fA y a i = fA x a i := fun a c => f.2.2.2.2.1 a i (by rw [if_neg c]; omega)
  exact ⟨(eA 20 (by decide)).trans h1, (eA 18 (by decide)).trans h2, (eA 19 (by decide)).trans h3, (f.2.2.2.2.2.2.1 i (by omega)).trans h4, (eA 22 (by decide)).trans h5, (eA 21 (by decide)).trans h6, fun j hj => (f.2.2.2.2.1 24 _ (by rw [if_pos rfl]; omega)).trans (h7 j hj)⟩
theorem EnA.app {x : St} {E G : List SEn} {i : Nat} (hi : i < E.length) : EnA x (E ++ G) i ↔ EnA x E i := by
  unfold EnA
  rw [getD_app_e hi, List.take_append_of_le_length (by omega)]
def EmM (x : St) (E0 G : List SEn) : Prop := (∀ i, i < E0.length → EnA x E0 i) ∧ ((OkE (E0 ++ G) ∧ fI x 0 37 = 0 ∧ EnM x (E0 ++ G)) ∨ (¬ OkE (E0 ++ G) ∧ fI x 0 37 = 1))
/-- the value of a node -/
def ndV (L : List SNd) (k : Int32) : Int64 × List Int32 := if k = -1 then (0, []) else ((L.getD k.toNatClampNeg (0, 0, 0, [])).2.2.1, (L.getD k.toNatClampNeg (0, 0, 0, [])).2.2.2)
theorem s_entry {post : St → Prop} {x : St} {E0 G : List SEn} {L : List SNd} {s c r d : Nat} {k : Int32} (hL : LM x) (hN : NdM x L s) (hs : s ≤ 4100) (hn : L.length ≤ 4100) (hk : k = -1 ∨ ∃ i, 0 < i ∧ i < L.length ∧ k = nI i) (h : EmM x E0 G)
    (p : ∀ y, FrE E0.length (tx E0) x y → EmM y E0 (G ++ [(c, r, d, (ndV L k).1, (ndV L k).2)]) → post y) : wp_Mod_entry post (nI c) (nI r) (nI d) k x := by
  have l : ∀ o, fN x o = lenM.getD o 0 := hL
  have l20 : fN x 20 = 10000 := l 20
  have l18 : fN x 18 = 10000 := l 18
  have l19 : fN x 19 = 10000 := l 19
  have l25 : fN x 25 = 10000 := l 25
  have l21 : fN x 21 = 10000 := l 21
  have l22 : fN x 22 = 10000 := l 22
  have l24 : fN x 24 = 60000 := l 24
  have l14 : fN x 14 = 4100 := l 14
  have l15 : fN x 15 = 4100 := l 15
  have l16 : fN x 16 = 4100 := l 16
  have l17 : fN x 17 = 4100 := l 17
  generalize hv : (ndV L k).1 = v at p
  generalize hb : (ndV L k).2 = b at p
  have ea : ∀ z : SEn, (E0 ++ (G ++ [z])) = (E0 ++ G) ++ [z] := fun z => by rw [List.append_assoc]
  have bad : ∀ (z : SEn) (y : St), FrE E0.length (tx E0) x y → fI y 0 37 = 1 → ¬ OkE (E0 ++ (G ++ [z])) → EmM y E0 (G ++ [z]) := fun z y f1 f2 f3 => ⟨fun i hi => (h.1 i hi).fr hi f1 (Nat.le_refl _) (Nat.le_refl _), Or.inr ⟨f3, f2⟩⟩
  unfold wp_Mod_entry
  rcases h.2 with ⟨g1, g2, g3⟩ | ⟨g1, g2⟩
  · have g35 := g3.1
    have g36 := g3.2.1
    have g0 := g3.2.2
    have hE : E0.length ≤ (E0 ++ G).length ∧ tx E0 ≤ tx (E0 ++ G) := by rw [List.length_append, tx_app]; omega
    generalize hEG : E0 ++ G = E at *
    obtain ⟨o1, o2⟩ := g1
    by_cases cm : E.length = 10000
    · refine bn_t (by rw [g35, cm]; rfl) (nm_e ?_)
      unfold j_Mod_entry_15
      refine br_f (show ¬ fI (setI x 0 37 1) 0 37 = 0 by rw [gI_at]; decide) (p _ (FrE.i (by decide)) (bad _ _ (FrE.i (by decide)) gI_at (fun z => ?_)))
      have z := z.1
      rw [ea, List.length_append] at z
      simp only [List.length_cons, List.length_nil] at z
      omega
    · have hm : E.length < 10000 := by omega
      have cl : (nI E.length).toNatClampNeg = E.length := nI_clamp (by omega)
      have inm : vp_in (nI E.length) 10000 := vp_in_nI hm (by decide)
      -- behind the six rows
      have main : ∀ Y : St, Y = setA (setA (setL (setA (setA (setA x 20 (nI E.length) (nI c)) 18 (nI E.length) (nI r)) 19 (nI E.length) (nI d)) 25 (nI E.length) v) 21 (nI E.length) (nI (tx E))) 22 (nI E.length) (nI b.length) → (vp_in (fI Y 0 35) (fN Y 22) ∧ ((((fI Y 0 36) + (rA Y 22 (fI Y 0 35))) ≤ 60000 → ∃ n : Nat, wl_Mod_entry_146 post n (nI c) (nI r) (nI d) k 0 Y) ∧ (¬ ((fI Y 0 36) + (rA Y 22 (fI Y 0 35))) ≤ 60000 → (∀ x393 : St, x393 = setI Y 0 37 1 → post x393)))) := by
        intro Y hY
        have yI : ∀ k, fI Y 0 k = fI x 0 k := fun k => by rw [hY]; rfl
        have yN : ∀ o, fN Y o = fN x o := fun o => by rw [hY]; rfl
        have fY : FrE E.length (tx E) x Y := by
          rw [hY]
          exact ((((((FrE.a (by decide) (by rw [if_neg (by decide)]; exact Nat.le_refl _) (by omega)).trans (FrE.a (by decide) (by rw [if_neg (by decide)]; exact Nat.le_refl _) (by omega))).trans (FrE.a (by decide) (by rw [if_neg (by decide)]; exact Nat.le_refl _) (by omega))).trans (FrE.l (Nat.le_refl _) (by omega))).trans (FrE.a (by decide) (by rw [if_neg (by decide)]; exact Nat.le_refl _) (by omega))).trans (FrE.a (by decide) (by rw [if_neg (by decide)]; exact Nat.le_refl _) (by omega)))
        have y20 : fA Y 20 E.length = nI c := by
          rw [hY, gA_ne (by decide), gA_ne (by decide)]
          show fA (setA (setA (setA x 20 (nI E.length) (nI c)) 18 (nI E.length) (nI r)) 19 (nI E.length) (nI d)) 20 _ = _
          rw [gA_ne (by decide), gA_ne (by decide), gA_at, cl, upd_at]
        have y18 : fA Y 18 E.length = nI r := by
          rw [hY, gA_ne (by decide), gA_ne (by decide)]
          show fA (setA (setA (setA x 20 (nI E.length) (nI c)) 18 (nI E.length) (nI r)) 19 (nI E.length) (nI d)) 18 _ = _
          rw [gA_ne (by decide), gA_at, cl, upd_at]
        have y19 : fA Y 19 E.length = nI d := by
          rw [hY, gA_ne (by decide), gA_ne (by decide)]
          show fA (setA (setA (setA x 20 (nI E.length) (nI c)) 18 (nI E.length) (nI r)) 19 (nI E.length) (nI d)) 19 _ = _
          rw [gA_at, cl, upd_at]
        have y25 : fL Y 25 E.length = v := by
          rw [hY]
          show fL (setL _ 25 (nI E.length) v) 25 _ = v
          rw [gL_at, cl, updL_at]
        have y21 : fA Y 21 E.length = nI (tx E) := by rw [hY, gA_ne (by decide), gA_at, cl, upd_at]
        have y22 : fA Y 22 E.length = nI b.length := by rw [hY, gA_at, cl, upd_at]
        have yo : ∀ a, a = 14 ∨ a = 15 ∨ a = 16 → fA Y a = fA x a := fun a ha => fY.2.2.2.1 a (by omega)
        have hbl : b.length ≤ s := by
          rw [← hb]
          unfold ndV
          rcases hk with rfl | ⟨i, i1, i2, rfl⟩
          · rw [if_pos rfl]; exact Nat.zero_le _
          · rw [if_neg (nI_nm1 (by omega)), nI_clamp (by omega)]
            obtain ⟨-, -, t, -, t2, -⟩ := (hN.2.2.2 i i2).2.2 i1
            show (L.getD i (0, 0, 0, [])).2.2.2.length ≤ s
            omega
        rw [yI 35, yI 36, g35, g36, yN 22, l22, rA_nI (by omega), y22]
        refine ⟨inm, ?_⟩
        by_cases ct : tx E + b.length ≤ 60000
        · refine br_t (by rw [nI_add]; (first | omega | (simp (disch := omega) only [Int32.le_iff_toInt_le, Int32.lt_iff_toInt_lt, z_eq, z_in, nI_toInt, z_cl, z_m1, z_sg, z_255, Int32.reduceToInt] <;> omega) | (simp only [Int32.le_iff_toInt_le, Int32.lt_iff_toInt_lt, z_eq, z_in, z_add, z_sub, z_mul, z_neg, z_nI, z_cl, z_sg, z_255, z_lit, Int32.reduceToInt] <;> omega))) ?_
          refine lp_Mod_entry_146 (fun l1 l2 l3 l4 l5 y => k = l4 ∧ ∃ j, nI j = l5 ∧ j ≤ b.length ∧ Fg no2 no2 no2 (fun a => a = 24) no1 Y y ∧ (∀ i, i < tx E → fA y 24 i = fA Y 24 i) ∧ ∀ i, i < j → fA y 24 (tx E + i) = b.getD i 0) (fun _ _ _ _ l5 _ => 10000 - l5.toNatClampNeg) ?_ _ _ _ _ _ _ ⟨rfl, 0, rfl, Nat.zero_le _, Fg.refl Y, fun _ _ => rfl, fun i hi => absurd hi (Nat.not_lt_zero i)⟩
          rintro R l1 l2 l3 l4 l5 y ⟨rfl, j, rfl, j1, f1, f2, f3⟩ ih
          have zI : ∀ o k, fI y o k = fI Y o k := fun o k => f1.1 o k (fun z => z)
          have zN : ∀ o, fN y o = fN x o := fun o => by show y.2.2.2.2.2 o = _; rw [f1.2.2.2.2.2]; exact yN o
          have zA : ∀ a, a ≠ 24 → fA y a = fA Y a := fun a ha => f1.2.2.2.1 a ha
          unfold j_Mod_entry_146
          rw [zI, zI, yI, yI, g35, g36, zN 22, l22, rA_nI (by omega), zA 22 (by decide), y22]
          refine ⟨inm, ?_⟩
          by_cases cj : j < b.length
          · refine br_f (by (first | omega | (simp (disch := omega) only [Int32.le_iff_toInt_le, Int32.lt_iff_toInt_lt, z_eq, z_in, nI_toInt, z_cl, z_m1, z_sg, z_255, Int32.reduceToInt] <;> omega) | (simp only [Int32.le_iff_toInt_le, Int32.lt_iff_toInt_lt, z_eq, z_in, z_add, z_sub, z_mul, z_neg, z_nI, z_cl, z_sg, z_255, z_lit, Int32.reduceToInt] <;> omega))) ?_
            rcases hk with rfl | ⟨i, i1, i2, rfl⟩
            · exfalso
              rw [← hb] at cj
              unfold ndV at cj
              rw [if_pos rfl] at cj
              exact absurd cj (Nat.not_lt_zero j)
            · have eb : b = (L.getD i (0, 0, 0, [])).2.2.2 := by rw [← hb]; unfold ndV; rw [if_neg (nI_nm1 (by omega)), nI_clamp (by omega)]
              obtain ⟨-, -, t, t1, t2, t3⟩ := (hN.2.2.2 i i2).2.2 i1
              rw [← eb] at t2 t3
              rw [zN 14, l14, zN 16, l16, zN 24, l24, rA_nI (by omega), zA 14 (by decide), yo 14 (by decide), t1, nI_add, nI_add, rA_nI (by omega), zA 16 (by decide), yo 16 (by decide), t3 j cj]
              refine ⟨vp_in_nI (by omega) (by decide), vp_in_nI (by omega) (by decide), vp_in_nI (by omega) (by decide), nm_e ?_⟩
              rw [nI_1]
              refine ih _ _ _ _ _ _ ⟨rfl, j + 1, rfl, by omega, f1.trans (Fg.a rfl), fun u hu => ?_, fun u hu => ?_⟩ ?_
              · rw [gA_at, nI_clamp (by omega), upd_ne (by omega)]; exact f2 u hu
              · rw [gA_at, nI_clamp (by omega)]
                by_cases e : u = j
                · rw [e, upd_at]
                · rw [upd_ne (by omega)]; exact f3 u (by omega)
              · rw [nI_clamp (by omega), nI_clamp (by omega)]
                omega
          · have ej : j = b.length := by omega
            subst ej
            refine br_t (by (first | omega | (simp (disch := omega) only [Int32.le_iff_toInt_le, Int32.lt_iff_toInt_lt, z_eq, z_in, nI_toInt, z_cl, z_m1, z_sg, z_255, Int32.reduceToInt] <;> omega) | (simp only [Int32.le_iff_toInt_le, Int32.lt_iff_toInt_lt, z_eq, z_in, z_add, z_sub, z_mul, z_neg, z_nI, z_cl, z_sg, z_255, z_lit, Int32.reduceToInt] <;> omega))) ⟨inm, nm_e (nm_e ?_)⟩
            have fy : FrE E.length (tx E) x y := by
              refine fY.trans ⟨fun o k _ => zI o k, funext (fun o => funext (fun k => f1.2.1 o k (fun z => z))), funext (fun o => funext (fun k => f1.2.2.1 o k (fun z => z))), fun a ha => zA a (fun z => ha (by omega)), fun a i hi => ?_, fun a _ => f1.2.2.2.2.1 a (fun z => z), fun i _ => by rw [f1.2.2.2.2.1 25 (fun z => z)], f1.2.2.2.2.2⟩
              by_cases e : a = 24
              · subst e
                rw [if_pos rfl] at hi
                exact f2 i hi
              · exact congrFun (zA a e) i
            have ff : FrE E.length (tx E) x (setI (setI y 0 36 (nI (tx E) + nI b.length)) 0 35 (fI (setI y 0 36 (nI (tx E) + nI b.length)) 0 35 + 1)) := fy.trans ((FrE.i (by decide)).trans (FrE.i (by decide)))
            refine p _ (ff.low hE.1 hE.2) ⟨fun i hi => (h.1 i hi).fr hi ff hE.1 hE.2, Or.inl ?_⟩
            rw [ea]
            have tz : tx (E ++ [(c, r, d, v, b)]) = tx E + b.length := by rw [tx_app]; rfl
            have lz : (E ++ [(c, r, d, v, b)]).length = E.length + 1 := by rw [List.length_append]; rfl
            refine ⟨⟨by rw [lz]; omega, by rw [tz]; omega⟩, ?_, ?_, ?_, fun i hi => ?_⟩
            · rw [gI_ne (by decide), gI_ne (by decide), zI, yI]; exact g2
            · rw [gI_at, gI_ne (by decide), zI, yI, g35, nI_1, lz]
            · rw [gI_ne (by decide), gI_at, nI_add, tz]
            · rw [lz] at hi
              by_cases ei : i = E.length
              · subst ei
                unfold EnA
                rw [enNew, List.take_append_of_le_length (Nat.le_refl _), List.take_length]
                refine ⟨?_, ?_, ?_, ?_, ?_, ?_, fun j hj => f3 j hj⟩
                · show fA y 20 _ = _; rw [zA 20 (by decide)]; exact y20
                · show fA y 18 _ = _; rw [zA 18 (by decide)]; exact y18
                · show fA y 19 _ = _; rw [zA 19 (by decide)]; exact y19
                · show y.2.2.2.2.1 25 _ = _; rw [f1.2.2.2.2.1 25 (fun z => z)]; exact y25
                · show fA y 22 _ = _; rw [zA 22 (by decide)]; exact y22
                · show fA y 21 _ = _; rw [zA 21 (by decide)]; exact y21
              · rw [EnA.app (by omega)]
                exact (g0 i (by omega)).fr (by omega) ff (Nat.le_refl _) (Nat.le_refl _)
        · refine br_f (by rw [nI_add]; (first | omega | (simp (disch := omega) only [Int32.le_iff_toInt_le, Int32.lt_iff_toInt_lt, z_eq, z_in, nI_toInt, z_cl, z_m1, z_sg, z_255, Int32.reduceToInt] <;> omega) | (simp only [Int32.le_iff_toInt_le, Int32.lt_iff_toInt_lt, z_eq, z_in, z_add, z_sub, z_mul, z_neg, z_nI, z_cl, z_sg, z_255, z_lit, Int32.reduceToInt] <;> omega))) (nm_e (p _ ((fY.low hE.1 hE.2).trans (FrE.i (by decide))) (bad _ _ ((fY.low hE.1 hE.2).trans (FrE.i (by decide))) gI_at (fun z => ?_))))
          have z := z.2
          rw [ea, tx_app] at z
          have : tx [(c, r, d, v, b)] = b.length + 0 := rfl
          omega
      refine bn_f (by rw [g35]; exact fun z => cm ((nI_eq (b := 10000) (by omega) (by decide)).mp z)) ?_
      unfold j_Mod_entry_15 j_Mod_entry_78 j_Mod_entry_117
      rw [g35, l20]
      refine br_t g2 ⟨inm, nm_e ?_⟩
      rw [show fI (setA x 20 (nI E.length) (nI c)) 0 35 = nI E.length from g35]
      refine ⟨by show vp_in _ (fN x 18); rw [l18]; exact inm, nm_e ?_⟩
      rw [show fI (setA (setA x 20 (nI E.length) (nI c)) 18 (nI E.length) (nI r)) 0 35 = nI E.length from g35]
      refine ⟨by show vp_in _ (fN x 19); rw [l19]; exact inm, nm_e ?_⟩
      rw [show fI (setA (setA (setA x 20 (nI E.length) (nI c)) 18 (nI E.length) (nI r)) 19 (nI E.length) (nI d)) 0 35 = nI E.length from g35]
      have in25 : vp_in (nI E.length) (fN x 25) := by rw [l25]; exact inm
      have in21 : vp_in (fI x 0 35) (fN x 21) := by rw [g35, l21]; exact inm
      have in22 : vp_in (fI x 0 35) (fN x 22) := by rw [g35, l22]; exact inm
      rcases hk with rfl | ⟨i, i1, i2, rfl⟩
      · have hv' : v = 0 := by rw [← hv]; unfold ndV; rw [if_pos rfl]
        have hb' : b = [] := by rw [← hb]; unfold ndV; rw [if_pos rfl]
        refine bn_t rfl ⟨in25, nm_e ⟨in21, nm_e (bn_t rfl ⟨in22, nm_e (main _ ?_)⟩)⟩⟩
        show setA (setA (setL _ 25 (nI E.length) 0) 21 (fI x 0 35) (fI x 0 36)) 22 (fI x 0 35) 0 = _
        rw [g35, g36, hv', hb']
        rfl
      · obtain ⟨n1, n2, t, n3, n4, n5⟩ := (hN.2.2.2 i i2).2.2 i1
        have hv' : v = fL x 17 i := by rw [← hv]; unfold ndV; rw [if_neg (nI_nm1 (by omega)), nI_clamp (by omega)]; exact n1.symm
        have hb' : nI b.length = fA x 15 i := by rw [← hb]; unfold ndV; rw [if_neg (nI_nm1 (by omega)), nI_clamp (by omega)]; exact n2.symm
        refine bn_f (nI_nm1 (by omega)) ⟨by show vp_in _ (fN x 17); rw [l17]; exact vp_in_nI (by omega) (by decide), in25, nm_e ⟨in21, nm_e (bn_f (nI_nm1 (by omega)) ⟨by show vp_in _ (fN x 15); rw [l15]; exact vp_in_nI (by omega) (by decide), in22, nm_e (main _ ?_)⟩)⟩⟩
        show setA (setA (setL _ 25 (nI E.length) (x.2.2.2.2.1 17 (nI i).toNatClampNeg)) 21 (fI x 0 35) (fI x 0 36)) 22 (fI x 0 35) (x.2.2.2.1 15 (nI i).toNatClampNeg) = _
        rw [g35, g36, hv', hb', nI_clamp (by omega)]
  · have fin : ∀ y, FrE E0.length (tx E0) x y → fI y 0 37 = 1 → j_Mod_entry_15 post (nI c) (nI r) (nI d) k y := by
      intro y f1 f2
      unfold j_Mod_entry_15
      refine br_f (by rw [f2]; decide) (p y f1 (bad _ y f1 f2 (fun z => g1 ?_)))
      obtain ⟨z1, z2⟩ := z
      rw [ea, List.length_append] at z1
      rw [ea, tx_app] at z2
      exact ⟨by omega, by omega⟩
    exact ⟨fun _ => fin x (FrE.refl _ _ _) g2, fun _ => nm_e (fin _ (FrE.i (by decide)) gI_at)⟩
