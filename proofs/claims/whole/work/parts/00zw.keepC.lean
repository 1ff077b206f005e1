/-! the class keeps a RECORD -/
/-- nothing but what is named has changed -/
def Fg (I J R : Nat → Nat → Prop) (A L : Nat → Prop) (x y : St) : Prop := (∀ o k, ¬ I o k → y.1 o k = x.1 o k) ∧ (∀ o k, ¬ J o k → y.2.1 o k = x.2.1 o k) ∧ (∀ o k, ¬ R o k → y.2.2.1 o k = x.2.2.1 o k) ∧ (∀ a, ¬ A a → y.2.2.2.1 a = x.2.2.2.1 a) ∧ (∀ a, ¬ L a → y.2.2.2.2.1 a = x.2.2.2.2.1 a) ∧ y.2.2.2.2.2 = x.2.2.2.2.2
theorem Fg.refl {I J R : Nat → Nat → Prop} {A L : Nat → Prop} (x : St) : Fg I J R A L x x := ⟨fun _ _ _ => rfl, fun _ _ _ => rfl, fun _ _ _ => rfl, fun _ _ => rfl, fun _ _ => rfl, rfl⟩
theorem Fg.trans {I J R : Nat → Nat → Prop} {A L : Nat → Prop} {x y z : St} (h : Fg I J R A L x y) (k : Fg I J R A L y z) : Fg I J R A L x z :=
  ⟨fun o i c => (k.1 o i c).trans (h.1 o i c), fun o i c => (k.2.1 o i c).trans (h.2.1 o i c), fun o i c => (k.2.2.1 o i c).trans (h.2.2.1 o i c), fun a c => (k.2.2.2.1 a c).trans (h.2.2.2.1 a c), fun a c => (k.2.2.2.2.1 a c).trans (h.2.2.2.2.1 a c), k.2.2.2.2.2.trans h.2.2.2.2.2⟩
theorem Fg.mono {I J R I' J' R' : Nat → Nat → Prop} {A L A' L' : Nat → Prop} {x y : St} (h : Fg I J R A L x y) (h1 : ∀ o k, I o k → I' o k) (h2 : ∀ o k, J o k → J' o k) (h3 : ∀ o k, R o k → R' o k) (h4 : ∀ a, A a → A' a) (h5 : ∀ a, L a → L' a) : Fg I' J' R' A' L' x y :=
  ⟨fun o i c => h.1 o i (fun z => c (h1 o i z)), fun o i c => h.2.1 o i (fun z => c (h2 o i z)), fun o i c => h.2.2.1 o i (fun z => c (h3 o i z)), fun a c => h.2.2.2.1 a (fun z => c (h4 a z)), fun a c => h.2.2.2.2.1 a (fun z => c (h5 a z)), h.2.2.2.2.2⟩
theorem Fg.i {I J R : Nat → Nat → Prop} {A L : Nat → Prop} {x : St} {o k : Nat} {v : Int32} (h : I o k) : Fg I J R A L x (setI x o k v) := by
  refine ⟨fun a b c => ?_, fun _ _ _ => rfl, fun _ _ _ => rfl, fun _ _ => rfl, fun _ _ => rfl, rfl⟩
  show (if a = o ∧ b = k then v else x.1 a b) = _
  rw [if_neg (fun z => c (by rw [z.1, z.2]; exact h))]
theorem Fg.j {I J R : Nat → Nat → Prop} {A L : Nat → Prop} {x : St} {o k : Nat} {v : Int64} (h : J o k) : Fg I J R A L x (setJ x o k v) := by
  refine ⟨fun _ _ _ => rfl, fun a b c => ?_, fun _ _ _ => rfl, fun _ _ => rfl, fun _ _ => rfl, rfl⟩
  show (if a = o ∧ b = k then v else x.2.1 a b) = _
  rw [if_neg (fun z => c (by rw [z.1, z.2]; exact h))]
theorem Fg.r {I J R : Nat → Nat → Prop} {A L : Nat → Prop} {x : St} {o k : Nat} {v : Option Nat} (h : R o k) : Fg I J R A L x (setR x o k v) := by
  refine ⟨fun _ _ _ => rfl, fun _ _ _ => rfl, fun a b c => ?_, fun _ _ => rfl, fun _ _ => rfl, rfl⟩
  show (if a = o ∧ b = k then v else x.2.2.1 a b) = _
  rw [if_neg (fun z => c (by rw [z.1, z.2]; exact h))]
theorem Fg.a {I J R : Nat → Nat → Prop} {A L : Nat → Prop} {x : St} {o : Nat} {i v : Int32} (h : A o) : Fg I J R A L x (setA x o i v) := by
  refine ⟨fun _ _ _ => rfl, fun _ _ _ => rfl, fun _ _ _ => rfl, fun a c => ?_, fun _ _ => rfl, rfl⟩
  show (if a = o then _ else x.2.2.2.1 a) = _
  rw [if_neg (fun z => c (by rw [z]; exact h))]
theorem Fg.l {I J R : Nat → Nat → Prop} {A L : Nat → Prop} {x : St} {o : Nat} {i : Int32} {v : Int64} (h : L o) : Fg I J R A L x (setL x o i v) := by
  refine ⟨fun _ _ _ => rfl, fun _ _ _ => rfl, fun _ _ _ => rfl, fun _ _ => rfl, fun a c => ?_, rfl⟩
  show (if a = o then _ else x.2.2.2.2.1 a) = _
  rw [if_neg (fun z => c (by rw [z]; exact h))]
theorem Fg.w {I J R : Nat → Nat → Prop} {A L : Nat → Prop} {x : St} {o : Nat} {f : Nat → Int32} (h : A o) : Fg I J R A L x (setW x o f) := by
  refine ⟨fun _ _ _ => rfl, fun _ _ _ => rfl, fun _ _ _ => rfl, fun a c => ?_, fun _ _ => rfl, rfl⟩
  show (if a = o then _ else x.2.2.2.1 a) = _
  rw [if_neg (fun z => c (by rw [z]; exact h))]
abbrev no2 : Nat → Nat → Prop := fun _ _ => False
abbrev no1 : Nat → Prop := fun _ => False
/-- the rows of the chains alone -/
abbrev FrCh (x y : St) : Prop := Fg (fun o k => o = 36 ∧ k ≤ 2) no2 no2 (fun a => a = 41 ∨ a = 43 ∨ a = 44) no1 x y
theorem d_keep {post : St → Prop} {x : St} {F : List SFd} {E : List SEn} {e0 t cnt : Nat} (hL : LC x) (h1 : fI x 36 1 = nI e0) (h0 : fI x 36 0 = nI cnt) (hR : RcC x F E t) (he : e0 ≤ E.length) (hE : E.length ≤ 10000) (hK : KpC x E e0)
    (p : ∀ y, FrCh x y → KpC y E E.length → fI y 36 0 = nI (cnt + 1) → fI y 36 1 = nI E.length → fI y 36 2 = nI t → post y) : wp_Rec_keep post 36 x := by
  have s8 : stC 36 8 = 40 := by decide +kernel
  have s9 : stC 36 9 = 41 := by decide +kernel
  have s10 : stC 36 10 = 43 := by decide +kernel
  have s11 : stC 36 11 = 44 := by decide +kernel
  unfold wp_Rec_keep
  rw [h1]
  refine nm_e ?_
  refine lp_Rec_keep_5 (fun o l1 y => 36 = o ∧ ∃ m, nI m = l1 ∧ e0 ≤ m ∧ m ≤ E.length ∧ Fg no2 no2 no2 (fun a => a = 41 ∨ a = 43 ∨ a = 44) no1 x y ∧ KpC y E m) (fun _ l1 _ => 20000 - l1.toNatClampNeg) ?_ _ _ _ ⟨rfl, e0, rfl, Nat.le_refl _, he, Fg.refl x, hK⟩
  rintro R o l1 y ⟨rfl, m, rfl, m1, m2, f1, f2⟩ ih
  have eI : ∀ k, fI y 36 k = fI x 36 k := fun k => f1.1 36 k (fun z => z)
  have lN : ∀ r, r < 152 → fN y r = lenC.getD r 0 := fun r hr => by show y.2.2.2.2.2 r = _; rw [f1.2.2.2.2.2]; exact hL r hr
  have l40 : fN y 40 = 10000 := lN 40 (by decide)
  have l41 : fN y 41 = 10000 := lN 41 (by decide)
  have l43 : fN y 43 = 64 := lN 43 (by decide)
  have l44 : fN y 44 = 64 := lN 44 (by decide)
  unfold j_Rec_keep_5 j_Rec_keep_59
  rw [s8, s9, s10, s11, eI 3, hR.1]
  by_cases c : m < E.length
  · have hEn := hR.2.2 m c (by omega)
    have e40 : fA y 40 = fA x 40 := f1.2.2.2.1 40 (by decide)
    obtain ⟨k1, k2⟩ := kp_step (nx := fA y 41) (hd := fA y 43) (tl := fA y 44) c f2
    have hc := hEn.2.2.2.1
    have ec := hEn.1
    generalize hcc : (E.getD m en0).1 = cc at *
    have cm : (nI m).toNatClampNeg = m := nI_clamp (by omega)
    have ccl : (nI cc).toNatClampNeg = cc := nI_clamp (by omega)
    refine br_f (by (first | omega | (simp (disch := omega) only [Int32.le_iff_toInt_le, Int32.lt_iff_toInt_lt, z_eq, z_in, nI_toInt, z_cl, z_m1, z_sg, z_255, Int32.reduceToInt] <;> omega) | (simp only [Int32.le_iff_toInt_le, Int32.lt_iff_toInt_lt, z_eq, z_in, z_add, z_sub, z_mul, z_neg, z_nI, z_cl, z_sg, z_255, z_lit, Int32.reduceToInt] <;> omega))) ⟨by rw [l40]; exact vp_in_nI (by omega) (by decide), ?_⟩
    rw [rA_nI (by omega), e40, ec]
    refine nm_e ⟨by rw [l41]; exact vp_in_nI (by omega) (by decide), nm_e ?_⟩
    have fy1 : Fg no2 no2 no2 (fun a => a = 41 ∨ a = 43 ∨ a = 44) no1 x (setA y 41 (nI m) (-1)) := f1.trans (Fg.a (Or.inl rfl))
    have a44 : fA (setA y 41 (nI m) (-1)) 44 = fA y 44 := gA_ne (by decide)
    have in44 : vp_in (nI cc) (fN y 44) := by rw [l44]; exact vp_in_nI hc (by decide)
    refine ⟨in44, ?_⟩
    rw [rA_nI (by omega), a44, (f2 cc hc).2]
    have done : ∀ z, Fg no2 no2 no2 (fun a => a = 41 ∨ a = 43 ∨ a = 44) no1 x z → KpC z E (m + 1) → R 36 (nI m + 1) z := by
      intro z z1 z2
      rw [nI_1]
      refine ih _ _ _ ⟨rfl, m + 1, rfl, by omega, by omega, z1, z2⟩ ?_
      rw [nI_clamp (by omega), cm]
      omega
    by_cases d : idx (E.take m) cc = []
    · refine bn_t (by unfold lastI; rw [if_pos d]) ⟨by show vp_in _ (fN y 43); rw [l43]; exact vp_in_nI hc (by decide), nm_e ⟨in44, nm_e (done _ ((fy1.trans (Fg.a (Or.inr (Or.inl rfl)))).trans (Fg.a (Or.inr (Or.inr rfl)))) ?_)⟩⟩
      intro c' hc'
      have := k1 d c' hc'
      rw [gA_ne (by decide), gA_ne (by decide), gA_at, cm, gA_ne (by decide), gA_at, ccl, gA_ne (by decide), gA_at, ccl, gA_ne (by decide), gA_ne (by decide)]
      exact this
    · have hl := (idx_tk (by omega)).mp (lastI_mem d)
      generalize hlt : (idx (E.take m) cc).getLastD 0 = lt at *
      have clt : (nI lt).toNatClampNeg = lt := nI_clamp (by omega)
      have el : lastI (idx (E.take m) cc) = nI lt := by unfold lastI; rw [if_neg d, hlt]
      rw [el]
      refine bn_f (nI_nm1 (by omega)) ⟨in44, by show vp_in _ (fN y 41); rw [l41]; exact vp_in_nI (by omega) (by decide), nm_e ⟨in44, nm_e (done _ ((fy1.trans (Fg.a (Or.inl rfl))).trans (Fg.a (Or.inr (Or.inr rfl)))) ?_)⟩⟩
      intro c' hc'
      have := k2 d c' hc'
      rw [gA_ne (by decide), gA_at, clt, gA_at, cm, gA_ne (by decide), gA_ne (by decide), gA_ne (by decide), gA_at, ccl, gA_ne (by decide), gA_ne (by decide)]
      exact this
  · have em : m = E.length := by omega
    subst em
    refine br_t (by (first | omega | (simp (disch := omega) only [Int32.le_iff_toInt_le, Int32.lt_iff_toInt_lt, z_eq, z_in, nI_toInt, z_cl, z_m1, z_sg, z_255, Int32.reduceToInt] <;> omega) | (simp only [Int32.le_iff_toInt_le, Int32.lt_iff_toInt_lt, z_eq, z_in, z_add, z_sub, z_mul, z_neg, z_nI, z_cl, z_sg, z_255, z_lit, Int32.reduceToInt] <;> omega))) ?_
    rw [← hR.1, ← eI 3]
    refine nm_e (nm_e (nm_e (p _ ?_ f2 ?_ ?_ ?_)))
    · exact ((f1.mono (fun _ _ z => z.elim) (fun _ _ z => z) (fun _ _ z => z) (fun _ z => z) (fun _ z => z)).trans (Fg.i (by decide))).trans ((Fg.i (by decide)).trans (Fg.i (by decide)))
    · rw [gI_at, gI_ne (by decide), gI_ne (by decide), eI 0, h0, nI_1]
    · rw [gI_ne (by decide), gI_ne (by decide), gI_at, eI 3, hR.1]
    · rw [gI_ne (by decide), gI_at, gI_ne (by decide), eI 4, hR.2.1]
