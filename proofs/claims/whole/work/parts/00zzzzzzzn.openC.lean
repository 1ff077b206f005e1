/-! the class opens a FILE -/
theorem by_inj {a b : Nat} (ha : a < 256) (hb : b < 256) (h : (nI a).toInt8.toInt32 = (nI b).toInt8.toInt32) : a = b := by
  have := (sg_inj (v := nI a) (w := nI b) (by (first | omega | (simp (disch := omega) only [Int32.le_iff_toInt_le, Int32.lt_iff_toInt_lt, z_eq, z_in, nI_toInt, z_cl, z_m1, z_sg, z_255, Int32.reduceToInt] <;> omega) | (simp only [Int32.le_iff_toInt_le, Int32.lt_iff_toInt_lt, z_eq, z_in, z_add, z_sub, z_mul, z_neg, z_nI, z_cl, z_sg, z_255, z_lit, Int32.reduceToInt] <;> omega))) (by (first | omega | (simp (disch := omega) only [Int32.le_iff_toInt_le, Int32.lt_iff_toInt_lt, z_eq, z_in, nI_toInt, z_cl, z_m1, z_sg, z_255, Int32.reduceToInt] <;> omega) | (simp only [Int32.le_iff_toInt_le, Int32.lt_iff_toInt_lt, z_eq, z_in, z_add, z_sub, z_mul, z_neg, z_nI, z_cl, z_sg, z_255, z_lit, Int32.reduceToInt] <;> omega))) (by (first | omega | (simp (disch := omega) only [Int32.le_iff_toInt_le, Int32.lt_iff_toInt_lt, z_eq, z_in, nI_toInt, z_cl, z_m1, z_sg, z_255, Int32.reduceToInt] <;> omega) | (simp only [Int32.le_iff_toInt_le, Int32.lt_iff_toInt_lt, z_eq, z_in, z_add, z_sub, z_mul, z_neg, z_nI, z_cl, z_sg, z_255, z_lit, Int32.reduceToInt] <;> omega))) (by (first | omega | (simp (disch := omega) only [Int32.le_iff_toInt_le, Int32.lt_iff_toInt_lt, z_eq, z_in, nI_toInt, z_cl, z_m1, z_sg, z_255, Int32.reduceToInt] <;> omega) | (simp only [Int32.le_iff_toInt_le, Int32.lt_iff_toInt_lt, z_eq, z_in, z_add, z_sub, z_mul, z_neg, z_nI, z_cl, z_sg, z_255, z_lit, Int32.reduceToInt] <;> omega)))).mp h
  exact nI_inj (by omega) (by omega) this
theorem magF {T : Nat → Nat} {k : Nat} : frmA T k ↔ ∀ i, i < 4 → T (k + i) = magB.getD i 0 := by
  constructor
  · rintro ⟨h0, h1, h2, h3⟩ i hi
    have : i = 0 ∨ i = 1 ∨ i = 2 ∨ i = 3 := by omega
    rcases this with rfl | rfl | rfl | rfl
    · exact h0
    · exact h1
    · exact h2
    · exact h3
  · intro h
    exact ⟨h 0 (by decide), h 1 (by decide), h 2 (by decide), h 3 (by decide)⟩
abbrev FrFm (x y : St) : Prop := Fg (fun a k => a = 96 ∧ k = 3 ∨ (a = 102 ∨ a = 104) ∧ (k = 1 ∨ k = 2 ∨ k = 3)) no2 no2 (fun a => a = 98 ∨ a = 82) no1 x y
section
variable {x y z : St} {T : Nat → Nat} {n : Nat}
theorem k_begin {post : St → Prop} {o a e : Nat} (ho : SrO o) (hF : FiC x T n) (hae : a ≤ e) (he : e ≤ n) (q : ∀ y, Fg (fun b k => b = o ∧ (k = 1 ∨ k = 2 ∨ k = 3)) no2 no2 no1 no1 x y → Sr o y T n a e → post y) : wp_Src_begin post o (nI a) (nI e) x := by
  have hn := hF.2.1
  unfold wp_Src_begin
  refine nm_e ?_
  rw [ho.st, show fN (setI x o 1 (nI a)) 82 = 120255 from hF.1 82 (by decide), show (if nI 120255 < nI e then nI 120255 else nI e) = nI e from if_neg (by (first | omega | (simp (disch := omega) only [Int32.le_iff_toInt_le, Int32.lt_iff_toInt_lt, z_eq, z_in, nI_toInt, z_cl, z_m1, z_sg, z_255, Int32.reduceToInt] <;> omega) | (simp only [Int32.le_iff_toInt_le, Int32.lt_iff_toInt_lt, z_eq, z_in, z_add, z_sub, z_mul, z_neg, z_nI, z_cl, z_sg, z_255, z_lit, Int32.reduceToInt] <;> omega)))]
  refine nm_e (nm_e ?_)
  have f : Fg (fun b k => b = o ∧ (k = 1 ∨ k = 2 ∨ k = 3)) no2 no2 no1 no1 x (setI (setI (setI x o 1 (nI a)) o 2 (nI e)) o 3 0) := Fg.trans (Fg.trans (Fg.i ⟨rfl, by decide⟩) (Fg.i ⟨rfl, by decide⟩)) (Fg.i ⟨rfl, by decide⟩)
  exact q _ f ⟨Fg.fic f id hF, gI_at, (gI_ne (by decide)).trans ((gI_ne (by decide)).trans gI_at), (gI_ne (by decide)).trans gI_at, hae, he⟩
theorem k_frame {post : Int32 → St → Prop} {q o : Nat} (hL : LC x) (hq : q ≠ 82) (hq8 : q ≠ 98) (hqn : n ≤ fN x q) (hq31 : fN x q < 2 ^ 31) (hn : n ≤ 40000) (hT : ∀ i, T i < 256) (hb : ∀ i, i < n → fA x q i = (nI (T i)).toInt8.toInt32) (h3 : fI x 96 3 = nI o) (ho : o ≤ 100)
    (pw : o = 100 → ∀ y, FrFm x y → fI y 96 3 = nI o → (∀ k, k < 3 → fA y 98 k = -1) → post 23 y)
    (pe : o < 100 → ∀ e y, ftO T n = .error e → 0 < e → e < 100 → FrFm x y → fI y 96 3 = nI (o + 1) → (∀ k, k < 3 → fA y 98 k = -1) → post (nI e) y)
    (pk : o < 100 → ∀ fr y, ftO T n = ftO2 T n fr → FrFm x y → fI y 96 3 = nI (o + 1) → (∀ k, k < 3 → fA y 98 k = -1) → Sr 102 y T n fr (n - 12) → Sr 104 y T n 4 fr → 16 ≤ n → post 0 y) : wp_Opn_lookAtFrame post 96 q (nI n) x := by
  unfold wp_Opn_lookAtFrame
  refine k_lookAt hL (fun y y1 y98a y98b y98c => ?_)
  have none : ∀ k, k < 3 → fA y 98 k = -1 := fun k hk => by
    have : k = 0 ∨ k = 1 ∨ k = 2 := by omega
    rcases this with rfl | rfl | rfl
    · exact y98a
    · exact y98b
    · exact y98c
  have fy : FrFm x y := y1.mono (fun _ _ z => z.elim) (fun _ _ z => z) (fun _ _ z => z) (fun _ z => Or.inl z) (fun _ z => z)
  have y3 : fI y 96 3 = nI o := (y1.ii id).trans h3
  rw [y3]
  by_cases c100 : o < 100
  rotate_left
  · exact br_f (by (first | omega | (simp (disch := omega) only [Int32.le_iff_toInt_le, Int32.lt_iff_toInt_lt, z_eq, z_in, nI_toInt, z_cl, z_m1, z_sg, z_255, Int32.reduceToInt] <;> omega) | (simp only [Int32.le_iff_toInt_le, Int32.lt_iff_toInt_lt, z_eq, z_in, z_add, z_sub, z_mul, z_neg, z_nI, z_cl, z_sg, z_255, z_lit, Int32.reduceToInt] <;> omega))) (pw (by omega) y fy y3 none)
  refine br_t (by (first | omega | (simp (disch := omega) only [Int32.le_iff_toInt_le, Int32.lt_iff_toInt_lt, z_eq, z_in, nI_toInt, z_cl, z_m1, z_sg, z_255, Int32.reduceToInt] <;> omega) | (simp only [Int32.le_iff_toInt_le, Int32.lt_iff_toInt_lt, z_eq, z_in, z_add, z_sub, z_mul, z_neg, z_nI, z_cl, z_sg, z_255, z_lit, Int32.reduceToInt] <;> omega))) ?_
  rw [nI_1]
  refine nm_e ?_
  have fz : FrFm x (setI y 96 3 (nI (o + 1))) := Fg.trans fy (Fg.i (Or.inl ⟨rfl, rfl⟩))
  have z3 : fI (setI y 96 3 (nI (o + 1))) 96 3 = nI (o + 1) := gI_at
  have zA : ∀ r, fA (setI y 96 3 (nI (o + 1))) r = fA y r := fun r => rfl
  generalize setI y 96 3 (nI (o + 1)) = z at *
  have pe := pe c100
  have pk := pk c100
  unfold j_Opn_lookAtFrame_41
  by_cases c16 : n < 16
  · exact br_t (by (first | omega | (simp (disch := omega) only [Int32.le_iff_toInt_le, Int32.lt_iff_toInt_lt, z_eq, z_in, nI_toInt, z_cl, z_m1, z_sg, z_255, Int32.reduceToInt] <;> omega) | (simp only [Int32.le_iff_toInt_le, Int32.lt_iff_toInt_lt, z_eq, z_in, z_add, z_sub, z_mul, z_neg, z_nI, z_cl, z_sg, z_255, z_lit, Int32.reduceToInt] <;> omega))) (pe 13 z (by unfold ftO; rw [if_pos (Or.inl c16)]) (by decide) (by decide) fz z3 (fun k hk => by rw [zA]; exact none k hk))
  refine br_f (by (first | omega | (simp (disch := omega) only [Int32.le_iff_toInt_le, Int32.lt_iff_toInt_lt, z_eq, z_in, nI_toInt, z_cl, z_m1, z_sg, z_255, Int32.reduceToInt] <;> omega) | (simp only [Int32.le_iff_toInt_le, Int32.lt_iff_toInt_lt, z_eq, z_in, z_add, z_sub, z_mul, z_neg, z_nI, z_cl, z_sg, z_255, z_lit, Int32.reduceToInt] <;> omega))) (br_t (by (first | omega | (simp (disch := omega) only [Int32.le_iff_toInt_le, Int32.lt_iff_toInt_lt, z_eq, z_in, nI_toInt, z_cl, z_m1, z_sg, z_255, Int32.reduceToInt] <;> omega) | (simp only [Int32.le_iff_toInt_le, Int32.lt_iff_toInt_lt, z_eq, z_in, z_add, z_sub, z_mul, z_neg, z_nI, z_cl, z_sg, z_255, z_lit, Int32.reduceToInt] <;> omega))) ?_)
  have zq : fA z q = fA x q := by rw [zA]; exact y1.aa hq8
  rw [show stC (stC 96 0) 6 = 82 from rfl, show (0 : Int32).toNatClampNeg = 0 from rfl, nI_clamp (by omega), fz.len, fz.len, show fN x 82 = 120255 from hL 82 (by decide)]
  refine ⟨⟨by decide, by decide, by (first | omega | (simp (disch := omega) only [Int32.le_iff_toInt_le, Int32.lt_iff_toInt_lt, z_eq, z_in, nI_toInt, z_cl, z_m1, z_sg, z_255, Int32.reduceToInt] <;> omega) | (simp only [Int32.le_iff_toInt_le, Int32.lt_iff_toInt_lt, z_eq, z_in, z_add, z_sub, z_mul, z_neg, z_nI, z_cl, z_sg, z_255, z_lit, Int32.reduceToInt] <;> omega)), by omega, by omega, fun i hi => by rw [Nat.zero_add, zq, hb i hi]; exact fits_sg _⟩, nm_e ?_⟩
  have fu : FrFm x (setW z 82 (va_cpy (fA z q) (fA z 82) 0 0 n)) := Fg.trans fz (Fg.w (Or.inr rfl))
  have u3 : fI (setW z 82 (va_cpy (fA z q) (fA z 82) 0 0 n)) 96 3 = nI (o + 1) := z3
  have u98 : ∀ k, k < 3 → fA (setW z 82 (va_cpy (fA z q) (fA z 82) 0 0 n)) 98 k = -1 := fun k hk => by rw [gW_ne (by decide), zA]; exact none k hk
  have uq : fA (setW z 82 (va_cpy (fA z q) (fA z 82) 0 0 n)) q = fA x q := by rw [gW_ne hq, zq]
  have Fu : FiC (setW z 82 (va_cpy (fA z q) (fA z 82) 0 0 n)) T n := ⟨fun r hr => (fu.len r).trans (hL r hr), hn, hT, fun i hi => by rw [gW_at, pk_cpy_in (Nat.zero_le _) (by omega), Nat.zero_add, Nat.sub_zero, zq]; exact hb i hi⟩
  generalize setW z 82 (va_cpy (fA z q) (fA z 82) 0 0 n) = u at *
  have e13 : ¬ (frmA T 0 ∧ frmA T (n - 4)) → ftO T n = .error 13 := fun h => by
    unfold ftO
    rw [if_pos]
    by_cases c : frmA T 0
    · exact Or.inr (Or.inr (fun z => h ⟨c, z⟩))
    · exact Or.inr (Or.inl c)
  refine lp_Opn_lookAtFrame_60 (fun a0 a1 a2 a3 w => 96 = a0 ∧ q = a1 ∧ nI n = a2 ∧ u = w ∧ ∃ k, nI k = a3 ∧ k ≤ 4 ∧ ∀ j, j < k → T j = magB.getD j 0 ∧ T (n - 4 + j) = magB.getD j 0) (fun _ _ _ a3 _ => 4 - a3.toNatClampNeg) ?_ _ _ _ _ _ ⟨rfl, rfl, rfl, rfl, 0, rfl, by decide, fun j hj => absurd hj (Nat.not_lt_zero _)⟩
  rintro Q a0 a1 a2 a3 w ⟨rfl, rfl, rfl, rfl, k, rfl, k1, hk⟩ ih
  unfold j_Opn_lookAtFrame_60
  by_cases ck : k < 4
  · have m1 := mag_at k ck
    have mb : magB.getD k 0 < 256 := by
      have : k = 0 ∨ k = 1 ∨ k = 2 ∨ k = 3 := by omega
      rcases this with rfl | rfl | rfl | rfl <;> decide
    have bad : ¬ (T k = magB.getD k 0 ∧ T (n - 4 + k) = magB.getD k 0) → j_Opn_lookAtFrame_91 post 96 q (nI n) (nI k) u := fun h => by
      unfold j_Opn_lookAtFrame_91
      refine pe 13 u (e13 (fun z => h ⟨?_, ?_⟩)) (by decide) (by decide) fu u3 u98
      · have := magF.mp z.1 k ck
        rw [Nat.zero_add] at this
        exact this
      · exact magF.mp z.2 k ck
    refine br_f (by (first | omega | (simp (disch := omega) only [Int32.le_iff_toInt_le, Int32.lt_iff_toInt_lt, z_eq, z_in, nI_toInt, z_cl, z_m1, z_sg, z_255, Int32.reduceToInt] <;> omega) | (simp only [Int32.le_iff_toInt_le, Int32.lt_iff_toInt_lt, z_eq, z_in, z_add, z_sub, z_mul, z_neg, z_nI, z_cl, z_sg, z_255, z_lit, Int32.reduceToInt] <;> omega))) ⟨by rw [fu.len]; exact vp_in_nI (by omega) hq31, vp_in_nI ck (by decide), ?_⟩
    rw [nI_clamp (by omega), m1, rA_nI (by omega), uq, hb k (by omega), show nI n - 4 + nI k = nI (n - 4 + k) from by rw [show (4 : Int32) = nI 4 from rfl, nI_sub (by omega), nI_add], rA_nI (by omega), uq, hb (n - 4 + k) (by omega)]
    by_cases c1 : T k = magB.getD k 0
    · refine bn_t (by rw [c1]) ⟨by rw [fu.len]; exact vp_in_nI (by omega) hq31, vp_in_nI ck (by decide), ?_⟩
      by_cases c2 : T (n - 4 + k) = magB.getD k 0
      · refine br_t (by rw [c2]) ?_
        rw [nI_1]
        refine ih _ _ _ _ _ ⟨rfl, rfl, rfl, rfl, k + 1, rfl, ck, fun j hj => ?_⟩ (by rw [nI_clamp (by omega), nI_clamp (by omega)]; omega)
        by_cases e : j = k
        · rw [e]; exact ⟨c1, c2⟩
        · exact hk j (by omega)
      · exact br_f (fun z => c2 (by_inj (hT _) mb z)) (bad (fun z => c2 z.2))
    · exact bn_f (fun z => c1 (by_inj (hT _) mb z)) (bad (fun z => c1 z.1))
  · have ek : k = 4 := by omega
    subst ek
    have f1 : frmA T 0 := magF.mpr (fun i hi => by rw [Nat.zero_add]; exact (hk i hi).1)
    have f2 : frmA T (n - 4) := magF.mpr (fun i hi => (hk i hi).2)
    refine br_t (by decide) ?_
    rw [show stC 96 1 = 102 from rfl, show stC 96 2 = 104 from rfl, show nI n - 12 = nI (n - 12) from by rw [show (12 : Int32) = nI 12 from rfl, nI_sub (by omega)], show nI n - 4 = nI (n - 4) from by rw [show (4 : Int32) = nI 4 from rfl, nI_sub (by omega)], show nI n - 16 = nI (n - 16) from by rw [show (16 : Int32) = nI 16 from rfl, nI_sub (by omega)], show (nI (n - 16)).toInt64 = lN (n - 16) from nI_l (by omega), show (4 : Int32) = nI 4 from rfl]
    refine k_begin so2 Fu (by omega) (by omega) (fun v v1 Sv => ?_)
    have fv : FrFm x v := Fg.trans fu (v1.mono (fun _ _ z => Or.inr ⟨Or.inl z.1, z.2⟩) (fun _ _ z => z) (fun _ _ z => z) (fun _ z => z.elim) (fun _ z => z))
    refine r_fxd so2 Sv (by decide) (fun e w w1 w2 w3 => ?_) (fun w w1 w2 Sw => ?_)
    · unfold fxd at w1; rw [if_neg (by omega)] at w1; cases w1
    refine r_fxd so2 Sw (by decide) (fun e t t1 t2 t3 => ?_) (fun t t1 t2 St' => nm_e ?_)
    · unfold fxd at t1; rw [if_neg (by omega)] at t1; cases t1
    have ft : FrFm x t := Fg.trans (Fg.trans fv (w2.mono (fun _ _ z => Or.inr ⟨Or.inl z.1, by omega⟩) (fun _ _ z => z) (fun _ _ z => z) (fun _ z => z.elim) (fun _ z => z))) (t2.mono (fun _ _ z => Or.inr ⟨Or.inl z.1, by omega⟩) (fun _ _ z => z) (fun _ _ z => z) (fun _ z => z.elim) (fun _ z => z))
    have t3 : fI t 96 3 = nI (o + 1) := (t2.ii (by decide)).trans ((w2.ii (by decide)).trans ((v1.ii (by decide)).trans u3))
    have t98 : ∀ k, k < 3 → fA t 98 k = -1 := fun k hk => by rw [t2.aa id, w2.aa id, v1.aa id]; exact u98 k hk
    have l8 := fxV_lt (p := n - 12) hT 4
    have p4 : 256 ^ 4 = 4294967296 := by decide
    rw [lg_cmp_le, lN_le2 (by omega) (by omega)]
    generalize hs : fxV T (n - 12) 4 = s at *
    have e2 : ftO T n = (if n - 16 < s then .error 13 else if crcS (fun i => nI (T i)) (n - 12 - s) (n - 12) ≠ (lN (fxV T (n - 8) 4)).toInt32 then .error 14 else ftO2 T n (n - 12 - s)) := by
      unfold ftO
      rw [if_neg (by rintro (z | z | z); omega; exact z f1; exact z f2), hs]
    by_cases cs : s ≤ n - 16
    rotate_left
    · exact br_f cs (pe 13 t (by rw [e2, if_pos (by omega)]) (by decide) (by decide) ft t3 t98)
    rw [if_neg (by omega)] at e2
    refine br_t cs ?_
    rw [lN_i, nI_sub (by omega)]
    refine nm_e (k_begin so2 St'.1 (by omega) (by omega) (fun a a1 Sa => k_begin (a := 4) so4 Sa.1 (by omega) (by omega) (fun d d1 Sd => ?_)))
    have fd : FrFm x d := Fg.trans (Fg.trans ft (a1.mono (fun _ _ z => Or.inr ⟨Or.inl z.1, z.2⟩) (fun _ _ z => z) (fun _ _ z => z) (fun _ z => z.elim) (fun _ z => z))) (d1.mono (fun _ _ z => Or.inr ⟨Or.inr z.1, z.2⟩) (fun _ _ z => z) (fun _ _ z => z) (fun _ z => z.elim) (fun _ z => z))
    have d3 : fI d 96 3 = nI (o + 1) := (d1.ii (by decide)).trans ((a1.ii (by decide)).trans t3)
    have d98 : ∀ k, k < 3 → fA d 98 k = -1 := fun k hk => by rw [d1.aa id, a1.aa id]; exact t98 k hk
    have Sd2 : Sr 102 d T n (n - 12 - s) (n - 12) := Sa.cg d1 id (by decide) (by decide) (by decide)
    have l82 : fN d 82 = 120255 := Sd.1.1 82 (by decide)
    rw [show stC (stC 96 0) 6 = 82 from rfl]
    refine c_checkOf (T := fun i => nI (T i)) (by rw [l82]; decide) (by rw [l82]; omega) (by omega) (fun i i1 i2 => ⟨Sd.1.2.2.2 i (by omega), by have := hT i; (first | omega | (simp (disch := omega) only [Int32.le_iff_toInt_le, Int32.lt_iff_toInt_lt, z_eq, z_in, nI_toInt, z_cl, z_m1, z_sg, z_255, Int32.reduceToInt] <;> omega) | (simp only [Int32.le_iff_toInt_le, Int32.lt_iff_toInt_lt, z_eq, z_in, z_add, z_sub, z_mul, z_neg, z_nI, z_cl, z_sg, z_255, z_lit, Int32.reduceToInt] <;> omega)), by have := hT i; (first | omega | (simp (disch := omega) only [Int32.le_iff_toInt_le, Int32.lt_iff_toInt_lt, z_eq, z_in, nI_toInt, z_cl, z_m1, z_sg, z_255, Int32.reduceToInt] <;> omega) | (simp only [Int32.le_iff_toInt_le, Int32.lt_iff_toInt_lt, z_eq, z_in, z_add, z_sub, z_mul, z_neg, z_nI, z_cl, z_sg, z_255, z_lit, Int32.reduceToInt] <;> omega))⟩) ?_
    rw [show n - 12 + 4 = n - 8 by omega]
    by_cases cc : (lN (fxV T (n - 8) 4)).toInt32 = crcS (fun i => nI (T i)) (n - 12 - s) (n - 12)
    · rw [if_neg (fun h => h cc.symm)] at e2
      exact bn_t cc (pk (n - 12 - s) d e2 fd d3 d98 Sd2 Sd (by omega))
    · rw [if_pos (fun h => cc h.symm)] at e2
      exact bn_f cc (pe 14 d e2 (by decide) (by decide) fd d3 d98)
end
