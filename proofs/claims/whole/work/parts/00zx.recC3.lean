/-! the class: a RECORD's text, and what becomes of it -/
def RsC (x : St) (F : List SFd) (E : List SEn) (cnt : Nat) : Prop := fI x 36 0 = nI cnt ∧ fI x 36 1 = nI E.length ∧ fI x 36 2 = nI (tx E) ∧ E.length ≤ 10000 ∧ tx E ≤ 60000 ∧ cnt ≤ 2000 ∧ (∀ i, i < E.length → EnC x F (tx E) i (E.getD i en0)) ∧ KpC x E E.length
abbrev FrRc (x y : St) : Prop := Fg (fun o _ => o = 10 ∨ o = 36) (fun o _ => o = 10) (fun o _ => o = 10 ∨ o = 36) (fun a => a = 37 ∨ a = 38 ∨ a = 40 ∨ a = 41 ∨ a = 42 ∨ a = 43 ∨ a = 44) (fun a => a = 39) x y
theorem FrZ.rc {e0 t0 : Nat} {x y : St} (f : FrZ e0 t0 x y) : FrRc x y :=
  ⟨fun o k c => f.1 o k (fun z => c (z.elim Or.inl (fun w => Or.inr w.1))), f.2.1, fun o k _ => by rw [f.2.2.1], fun a c => f.2.2.2.1 a (fun z => c (by omega)), f.2.2.2.2.2.1, f.2.2.2.2.2.2.2⟩
theorem FrCh.rc {x y : St} (f : FrCh x y) : FrRc x y := f.mono (fun _ _ z => Or.inr z.1) (fun _ _ z => z.elim) (fun _ _ z => z.elim) (fun a z => by omega) (fun _ z => z.elim)
theorem RsC.z {x y : St} {F : List SFd} {E : List SEn} {cnt : Nat} (h : RsC x F E cnt) (f : FrZ E.length (tx E) x y) : RsC y F E cnt := by
  obtain ⟨h1, h2, h3, h4, h5, h6, h7, h8⟩ := h
  have eI : ∀ k, k ≠ 3 → k ≠ 4 → fI y 36 k = fI x 36 k := fun k a b => f.1 36 k (by omega)
  have eA : ∀ a i, a ≠ 42 → i < E.length → fA y a i = fA x a i := fun a i c d => f.2.2.2.2.1 a i (by rw [if_neg c]; exact d)
  refine ⟨(eI 0 (by decide) (by decide)).trans h1, (eI 1 (by decide) (by decide)).trans h2, (eI 2 (by decide) (by decide)).trans h3, h4, h5, h6, fun i hi => ?_, ?_⟩
  · obtain ⟨g1, g2, g3, g4, g5, g6, g7⟩ := h7 i hi
    refine ⟨(eA 40 i (by decide) hi).trans g1, (eA 37 i (by decide) hi).trans g2, (eA 38 i (by decide) hi).trans g3, g4, g5, g6, ?_⟩
    rw [show fL y 39 i = fL x 39 i from f.2.2.2.2.2.2.1 i hi]
    exact g7.cg (fun j hj => f.2.2.2.2.1 42 j (by rw [if_pos rfl]; exact hj)) (Nat.le_refl _)
  · intro c hc
    rw [show fA y 41 = fA x 41 from f.2.2.2.1 41 (by decide), show fA y 43 = fA x 43 from f.2.2.2.1 43 (by decide), show fA y 44 = fA x 44 from f.2.2.2.1 44 (by decide)]
    exact h8 c hc
theorem take_app_e {E G : List SEn} : (E ++ G).take E.length = E := List.take_left' rfl
theorem getD_app_e {E G : List SEn} {i : Nat} (h : i < E.length) : (E ++ G).getD i en0 = E.getD i en0 := by
  rw [List.getD_eq_getElem?_getD, List.getD_eq_getElem?_getD, List.getElem?_append_left h]
theorem d_recText {post : Int32 → St → Prop} {x : St} {q : Nat} {T : Nat → Int32} {n : Nat} {F : List SFd} {s cnt : Nat} {E : List SEn} {L0 : List SNd} (hs : SchId s) (hw : WfS F) (hq : skRow q) (hn : n ≤ 4000) (hL : LC x) (hRp : RepC x s F) (hS : ScC x q T n 0 (-1)) (hR : RsC x F E cnt)
    (pE : (pGrp T n F 18 0 (-1) 0 L0).1 ≠ -1 → ∀ y, FrRc x y → RsC y F E cnt → post (pGrp T n F 18 0 (-1) 0 L0).1 y)
    (pM : (pGrp T n F 18 0 (-1) 0 L0).1 = -1 → skip T n (pGrp T n F 18 0 (-1) 0 L0).2.1 < n → ∀ y, FrRc x y → RsC y F E cnt → post (nI (skip T n (pGrp T n F 18 0 (-1) 0 L0).2.1)) y)
    (pF : (pGrp T n F 18 0 (-1) 0 L0).1 = -1 → ¬ skip T n (pGrp T n F 18 0 (-1) 0 L0).2.1 < n → (2000 ≤ cnt ∨ 10000 < (E ++ eGrp T n F 18 0 (-1) 0 L0 0).length ∨ 60000 < tx (E ++ eGrp T n F 18 0 (-1) 0 L0 0)) → ∀ y, FrRc x y → RsC y F E cnt → post (-2) y)
    (pO : (pGrp T n F 18 0 (-1) 0 L0).1 = -1 → ¬ skip T n (pGrp T n F 18 0 (-1) 0 L0).2.1 < n → cnt < 2000 → (E ++ eGrp T n F 18 0 (-1) 0 L0 0).length ≤ 10000 → tx (E ++ eGrp T n F 18 0 (-1) 0 L0 0) ≤ 60000 → ∀ y, FrRc x y → RsC y F (E ++ eGrp T n F 18 0 (-1) 0 L0 0) (cnt + 1) → post (-1) y) : wp_Rec_readText post 36 10 s x := by
  obtain ⟨h1, h2, h3, h4, h5, h6, h7, h8⟩ := hR
  unfold wp_Rec_readText
  refine nm_e (nm_e (nm_e (nm_e ?_)))
  have fX : FrRc x (setI (setI (setR (setR x 36 13 (some 10)) 36 14 (some s)) 36 3 (fI (setR (setR x 36 13 (some 10)) 36 14 (some s)) 36 1)) 36 4 (fI (setI (setR (setR x 36 13 (some 10)) 36 14 (some s)) 36 3 (fI (setR (setR x 36 13 (some 10)) 36 14 (some s)) 36 1)) 36 2)) := ((Fg.r (Or.inr rfl)).trans (Fg.r (Or.inr rfl))).trans ((Fg.i (Or.inr rfl)).trans (Fg.i (Or.inr rfl)))
  have kX : RkC E.length (tx E) (setI (setI (setR (setR x 36 13 (some 10)) 36 14 (some s)) 36 3 (fI (setR (setR x 36 13 (some 10)) 36 14 (some s)) 36 1)) 36 4 (fI (setI (setR (setR x 36 13 (some 10)) 36 14 (some s)) 36 3 (fI (setR (setR x 36 13 (some 10)) 36 14 (some s)) 36 1)) 36 2)) q T n F s 0 E (tx E) := by
    refine ⟨⟨⟨hS.1.1, hS.1.2.1, hS.1.2.2⟩, hS.2.1, hS.2.2.1, hS.2.2.2⟩, ⟨fun r hr => hL r hr, ?_, rfl, rfl, ?_, ?_, fun i hi _ => h7 i hi⟩, by omega, by omega, Nat.le_refl _, Nat.le_refl _, rfl⟩
    · obtain ⟨z1, z2, z3⟩ := sch_far0 s hs
      obtain ⟨r1, r2, r3⟩ := hRp
      refine ⟨?_, ?_, r3⟩
      · show (if s = 36 ∧ 0 = 4 then _ else if s = 36 ∧ 0 = 3 then _ else x.1 s 0) = _
        rw [if_neg (by omega), if_neg (by omega)]; exact r1
      · show (if s = 36 ∧ 1 = 4 then _ else if s = 36 ∧ 1 = 3 then _ else x.1 s 1) = _
        rw [if_neg (by omega), if_neg (by omega)]; exact r2
    · rw [gI_ne (by decide), gI_at]; exact h2
    · rw [gI_at]; exact h3
  have rX : RsC (setI (setI (setR (setR x 36 13 (some 10)) 36 14 (some s)) 36 3 (fI (setR (setR x 36 13 (some 10)) 36 14 (some s)) 36 1)) 36 4 (fI (setI (setR (setR x 36 13 (some 10)) 36 14 (some s)) 36 3 (fI (setR (setR x 36 13 (some 10)) 36 14 (some s)) 36 1)) 36 2)) F E cnt := by
    refine ⟨?_, ?_, ?_, h4, h5, h6, h7, h8⟩
    · rw [gI_ne (by decide), gI_ne (by decide)]; exact h1
    · rw [gI_ne (by decide), gI_ne (by decide)]; exact h2
    · rw [gI_ne (by decide), gI_ne (by decide)]; exact h3
  generalize (setI (setI (setR (setR x 36 13 (some 10)) 36 14 (some s)) 36 3 (fI (setR (setR x 36 13 (some 10)) 36 14 (some s)) 36 1)) 36 4 (fI (setI (setR (setR x 36 13 (some 10)) 36 14 (some s)) 36 3 (fI (setR (setR x 36 13 (some 10)) 36 14 (some s)) 36 1)) 36 2)) = X at fX kX rX ⊢
  have e0 : nI (upS wOne (fPa F) (-1)) = 0 := by rw [upS_neg]; rfl
  unfold wp_Rec_readGroup
  have key := d_grpC (e0 := E.length) (t0 := tx E) (T := T) hs hw hq hn 18 200 (by decide)
  have key := fun post pq => key post X 0 0 (-1) L0 0 E (tx E) kX (Or.inl rfl) (by omega) (by decide) pq
  rw [e0] at key
  refine key _ (fun y o => ?_)
  clear key
  generalize pGrp T n F 18 0 (-1) 0 L0 = Rs at *
  generalize hE' : E ++ eGrp T n F 18 0 (-1) 0 L0 0 = E' at *
  have r13 : ∀ y, FrZ E.length (tx E) X y → fR y 36 13 = some 10 := fun y g1 => by show y.2.2.1 36 13 = _; rw [g1.2.2.1]; exact kX.2.1.2.2.1
  have bad : ∀ y e j, e ≠ -1 → FrZ E.length (tx E) X y → ScC y q T n j e → (∀ z, FrRc x z → RsC z F E cnt → post e z) → j_Rec_readText_68 post 36 10 s y := by
    intro y e j g1 g2 g3 g4
    unfold j_Rec_readText_68
    refine ⟨10, r13 y g2, c_good ?_⟩
    rw [if_neg (by rw [g3.2.2.1]; exact g1)]
    refine bn_t rfl ⟨10, r13 y g2, ?_⟩
    rw [g3.2.2.1]
    exact g4 y (fX.trans g2.rc) (rX.z g2)
  refine ⟨10, r13 y o.1, c_good ?_⟩
  rcases o.2 with ⟨o1, o2, t, o3⟩ | ⟨o1, j, o2⟩
  · rw [if_pos o3.1.2.2.1]
    have hk4 := o3.1.2.2.2
    have hs4 := @skip_le T n Rs.2.1 hk4
    refine br_f (by decide) ⟨10, r13 y o.1, c_next o3.1.1 o3.1.2.1 (by omega) ?_⟩
    have fz : FrZ E.length (tx E) X (setI y 10 2 (nI (skip T n Rs.2.1))) := o.1.trans FrT.i.z
    have h9 := o3.t hs FrT.i (o3.1.go hs4) (skip_ge _ _ _)
    generalize setI y 10 2 (nI (skip T n Rs.2.1)) = Z at fz h9 ⊢
    by_cases c : skip T n Rs.2.1 < n
    · rw [if_pos c]
      have hb := (h9.1.1.2.2.2.2.2 _ c).2.1
      refine br_f (fun z => by rw [z] at hb; exact absurd hb (by decide)) ⟨10, r13 Z fz, 10, r13 Z fz, ?_⟩
      rw [h9.1.2.1]
      refine c_refuse ?_
      rw [if_pos h9.1.2.2.1]
      exact bad _ _ _ (nI_nm1 (by omega)) (fz.trans FrT.i.z) h9.1.ill (fun z z1 z2 => pM o1 c z z1 z2)
    · rw [if_neg c]
      refine br_t rfl ?_
      obtain ⟨u1, u2, u3, u4, u5, u6, u7⟩ := h9
      have rZ := rX.z fz
      have fZ := fX.trans fz.rc
      unfold j_Rec_readText_68 j_Rec_readText_115
      refine ⟨10, r13 Z fz, c_good ?_⟩
      rw [if_pos u1.2.2.1, rZ.1, u2.2.2.2.2.1, u2.2.2.2.2.2.1]
      refine bn_f (by decide) ?_
      by_cases c1 : 2000 ≤ cnt
      · exact br_t (by (first | omega | (simp (disch := omega) only [Int32.le_iff_toInt_le, Int32.lt_iff_toInt_lt, z_eq, z_in, nI_toInt, z_cl, z_m1, z_sg, z_255, Int32.reduceToInt] <;> omega) | (simp only [Int32.le_iff_toInt_le, Int32.lt_iff_toInt_lt, z_eq, z_in, z_add, z_sub, z_mul, z_neg, z_nI, z_cl, z_sg, z_255, z_lit, Int32.reduceToInt] <;> omega))) (pF o1 c (Or.inl c1) Z fZ rZ)
      refine br_f (by (first | omega | (simp (disch := omega) only [Int32.le_iff_toInt_le, Int32.lt_iff_toInt_lt, z_eq, z_in, nI_toInt, z_cl, z_m1, z_sg, z_255, Int32.reduceToInt] <;> omega) | (simp only [Int32.le_iff_toInt_le, Int32.lt_iff_toInt_lt, z_eq, z_in, z_add, z_sub, z_mul, z_neg, z_nI, z_cl, z_sg, z_255, z_lit, Int32.reduceToInt] <;> omega))) ?_
      by_cases c2 : 10000 < E'.length
      · exact br_t (by (first | omega | (simp (disch := omega) only [Int32.le_iff_toInt_le, Int32.lt_iff_toInt_lt, z_eq, z_in, nI_toInt, z_cl, z_m1, z_sg, z_255, Int32.reduceToInt] <;> omega) | (simp only [Int32.le_iff_toInt_le, Int32.lt_iff_toInt_lt, z_eq, z_in, z_add, z_sub, z_mul, z_neg, z_nI, z_cl, z_sg, z_255, z_lit, Int32.reduceToInt] <;> omega))) (pF o1 c (Or.inr (Or.inl c2)) Z fZ rZ)
      refine br_f (by (first | omega | (simp (disch := omega) only [Int32.le_iff_toInt_le, Int32.lt_iff_toInt_lt, z_eq, z_in, nI_toInt, z_cl, z_m1, z_sg, z_255, Int32.reduceToInt] <;> omega) | (simp only [Int32.le_iff_toInt_le, Int32.lt_iff_toInt_lt, z_eq, z_in, z_add, z_sub, z_mul, z_neg, z_nI, z_cl, z_sg, z_255, z_lit, Int32.reduceToInt] <;> omega))) ?_
      by_cases c3 : t ≤ 60000
      · refine br_t (by (first | omega | (simp (disch := omega) only [Int32.le_iff_toInt_le, Int32.lt_iff_toInt_lt, z_eq, z_in, nI_toInt, z_cl, z_m1, z_sg, z_255, Int32.reduceToInt] <;> omega) | (simp only [Int32.le_iff_toInt_le, Int32.lt_iff_toInt_lt, z_eq, z_in, z_add, z_sub, z_mul, z_neg, z_nI, z_cl, z_sg, z_255, z_lit, Int32.reduceToInt] <;> omega))) (d_keep (E := E') (e0 := E.length) (t := t) (cnt := cnt) u2.1 rZ.2.1 rZ.1 u2.2.2.2.2 u5 (by omega) ?_ (fun W w1 w2 w3 w4 w5 => ?_))
        · intro cc hcc
          have := rZ.2.2.2.2.2.2.2 cc hcc
          rw [List.take_length] at this
          rw [← hE', take_app_e]
          exact this
        · refine pO o1 c (by omega) (by omega) (by omega) W (fZ.trans w1.rc) ⟨w3, w4, by rw [w5, u7], by omega, by omega, by omega, fun i hi => ?_, w2⟩
          have g := u2.2.2.2.2.2.2 i hi (by omega)
          rw [← u7]
          unfold EnC VlC at g ⊢
          rw [show fA W 40 = fA Z 40 from w1.2.2.2.1 40 (by decide), show fA W 37 = fA Z 37 from w1.2.2.2.1 37 (by decide), show fA W 38 = fA Z 38 from w1.2.2.2.1 38 (by decide), show fL W 39 = fL Z 39 from w1.2.2.2.2.1 39 (fun z => z), show fA W 42 = fA Z 42 from w1.2.2.2.1 42 (by decide)]
          exact g
      · exact br_f (by (first | omega | (simp (disch := omega) only [Int32.le_iff_toInt_le, Int32.lt_iff_toInt_lt, z_eq, z_in, nI_toInt, z_cl, z_m1, z_sg, z_255, Int32.reduceToInt] <;> omega) | (simp only [Int32.le_iff_toInt_le, Int32.lt_iff_toInt_lt, z_eq, z_in, z_add, z_sub, z_mul, z_neg, z_nI, z_cl, z_sg, z_255, z_lit, Int32.reduceToInt] <;> omega))) (pF o1 c (Or.inr (Or.inr (by omega))) Z fZ rZ)
  · rw [if_neg (by rw [o2.2.2.1]; exact o1)]
    exact br_t rfl (bad y _ j o1 o.1 o2 (fun z z1 z2 => pE o1 z z1 z2))
/-! a row is filled -/
theorem d_fill {post : St → Prop} {x : St} {r : Nat} {v : Int32} (hr : fN x r < 2 ^ 31) (p : ∀ y, Fg no2 no2 no2 (fun a => a = r) no1 x y → (∀ i, i < fN x r → fA y r i = v) → post y) : wp_JArr_fill post r v x := by
  unfold wp_JArr_fill
  refine nm_e ?_
  refine lp_JArr_fill_5 (fun l0 l1 l2 l3 y => r = l0 ∧ v = l1 ∧ nI (fN x r) = l3 ∧ ∃ i, nI i = l2 ∧ i ≤ fN x r ∧ Fg no2 no2 no2 (fun a => a = r) no1 x y ∧ ∀ j, j < i → fA y r j = v) (fun _ _ l2 _ _ => fN x r - l2.toNatClampNeg) ?_ _ _ _ _ _ ⟨rfl, rfl, rfl, 0, rfl, Nat.zero_le _, Fg.refl x, fun j h => absurd h (Nat.not_lt_zero j)⟩
  rintro R l0 l1 l2 l3 y ⟨rfl, rfl, rfl, i, rfl, i1, f1, f2⟩ ih
  unfold j_JArr_fill_5
  have el : fN y r = fN x r := by show y.2.2.2.2.2 r = _; rw [f1.2.2.2.2.2]
  by_cases c : i < fN x r
  · refine br_f (by (first | omega | (simp (disch := omega) only [Int32.le_iff_toInt_le, Int32.lt_iff_toInt_lt, z_eq, z_in, nI_toInt, z_cl, z_m1, z_sg, z_255, Int32.reduceToInt] <;> omega) | (simp only [Int32.le_iff_toInt_le, Int32.lt_iff_toInt_lt, z_eq, z_in, z_add, z_sub, z_mul, z_neg, z_nI, z_cl, z_sg, z_255, z_lit, Int32.reduceToInt] <;> omega))) ⟨by rw [el]; exact vp_in_nI c hr, nm_e ?_⟩
    rw [nI_1]
    refine ih _ _ _ _ _ ⟨rfl, rfl, rfl, i + 1, rfl, c, f1.trans (Fg.a rfl), fun j hj => ?_⟩ ?_
    · rw [gA_at, nI_clamp (by omega)]
      by_cases d : j = i
      · rw [d, upd_at]
      · rw [upd_ne d]; exact f2 j (by omega)
    · rw [nI_clamp (by omega), nI_clamp (by omega)]
      omega
  · exact br_t (by (first | omega | (simp (disch := omega) only [Int32.le_iff_toInt_le, Int32.lt_iff_toInt_lt, z_eq, z_in, nI_toInt, z_cl, z_m1, z_sg, z_255, Int32.reduceToInt] <;> omega) | (simp only [Int32.le_iff_toInt_le, Int32.lt_iff_toInt_lt, z_eq, z_in, z_add, z_sub, z_mul, z_neg, z_nI, z_cl, z_sg, z_255, z_lit, Int32.reduceToInt] <;> omega))) (p y f1 (fun j hj => f2 j (by omega)))
theorem idx_nil (c : Nat) : idx [] c = [] := rfl
/-- there are no records -/
theorem d_forgetR {post : St → Prop} {x : St} {F : List SFd} (hL : LC x) (p : ∀ y, FrCh x y → RsC y F [] 0 → post y) : wp_Rec_forget post 36 x := by
  have s10 : stC 36 10 = 43 := by decide +kernel
  have s11 : stC 36 11 = 44 := by decide +kernel
  have l43 : fN x 43 = 64 := hL 43 (by decide)
  have l44 : fN x 44 = 64 := hL 44 (by decide)
  unfold wp_Rec_forget
  rw [s10, s11]
  refine nm_e (nm_e (nm_e (d_fill (by show fN x 43 < _; omega) (fun y f1 f2 => d_fill ?_ (fun z g1 g2 => p z ?_ ?_)))))
  · show y.2.2.2.2.2 44 < _
    rw [f1.2.2.2.2.2]
    show fN x 44 < _
    omega
  · exact (((Fg.i (by decide)).trans (Fg.i (by decide))).trans (Fg.i (by decide))).trans ((f1.mono (fun _ _ z => z.elim) (fun _ _ z => z) (fun _ _ z => z) (fun a z => by omega) (fun _ z => z)).trans (g1.mono (fun _ _ z => z.elim) (fun _ _ z => z) (fun _ _ z => z) (fun a z => by omega) (fun _ z => z)))
  · have eI : ∀ k, fI z 36 k = fI (setI (setI (setI x 36 0 0) 36 1 0) 36 2 0) 36 k := fun k => (g1.1 36 k (fun z => z)).trans (f1.1 36 k (fun z => z))
    refine ⟨eI 0, eI 1, eI 2, by decide, by decide, by decide, fun i hi => absurd hi (Nat.not_lt_zero i), fun c hc => ?_⟩
    have h43 : fA z 43 c = -1 := by
      rw [show fA z 43 = fA y 43 from g1.2.2.2.1 43 (by decide)]
      exact f2 c (by show c < fN x 43; omega)
    have h44 : fA z 44 c = -1 := g2 c (by
      show c < y.2.2.2.2.2 44
      rw [f1.2.2.2.2.2]
      show c < fN x 44
      omega)
    rw [h43, h44]
    exact ⟨rfl, rfl⟩
