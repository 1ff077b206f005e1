/-! query(), class -/
abbrev FqV (s o : Nat) (x y : St) : Prop := Fg (fun a k => a = 10 ∨ a = o ∨ a = s ∧ (k = 1 ∨ k = 2)) (fun a _ => a = 10) (fun a k => a = o ∧ (k = 17 ∨ k = 18) ∨ a = 10 ∧ k = 0 ∨ a = 0 ∧ (k = 10 ∨ k = 11)) (fun a => o + 1 ≤ a ∧ a ≤ o + 10) (fun a => a = o + 9) x y
section
variable {q n o s qq : Nat} {T : Nat → Int32} {F : List SFd} {x : St}
theorem k_query {post : Int32 → St → Prop} {b : Bool} (hL : LC x) (h1 : fR x 0 1 = some s) (hs : SnkId s) (hc : fI x s 1 = nI n) (hr : fR x s 0 = some q) (hq : skRow q) (hqn : n ≤ fN x q) (hq31 : fN x q < 2 ^ 31) (hn : n ≤ 40000) (hb : ∀ i, i < n → fA x q i = (T i).toInt8.toInt32 ∧ 0 ≤ T i ∧ T i ≤ 255) (h10 : fR x 0 10 = some qq) (h11 : fR x 0 11 = some o) (hqq : QId qq) (ho : QId o) (hne : qq ≠ o) (h97 : fI x 97 0 = if b = true then 1 else 0) (hO : b = true → WfS F ∧ RepC x 70 F)
    (pN : b = false → ∀ z, FqV s o x z → fI z s 1 = 0 → fI z s 2 = 0 → fR z 0 10 = some qq → fR z 0 11 = some o → (∀ k, fI z o k = fI x o k) → post (-2) z)
    (pL : b = true → 2000 < n → ∀ z, FqV s o x z → fI z s 1 = 0 → fI z s 2 = 0 → fR z 0 10 = some qq → fR z 0 11 = some o → (∀ k, fI z o k = fI x o k) → post 2000 z)
    (pE : b = true → n ≤ 2000 → ¬ (qry T n F).1 = -1 → ∀ z, FqV s o x z → fI z s 1 = 0 → fI z s 2 = 0 → fR z 0 10 = some qq → fR z 0 11 = some o → fI z o 0 = 0 → post (qry T n F).1 z)
    (pO : b = true → n ≤ 2000 → (qry T n F).1 = -1 → ∀ z, FqV s o x z → fI z s 1 = 0 → fI z s 2 = 0 → fR z 0 10 = some o → fR z 0 11 = some qq → SqC F z o (qry T n F).2.2 → (fI z o 7 = if cll (qry T n F).2.2 = true then 1 else 0) → fI z o 0 = 1 → post (-1) z) : wp_V_query post 0 x := by
  have s97 : s ≠ 97 ∧ s ≠ 10 ∧ s ≠ 70 ∧ s ≠ 0 := by unfold SnkId at hs; omega
  have so : s ≠ o := by unfold SnkId at hs; unfold QId at ho; omega
  have o10 : o ≠ 10 ∧ o ≠ 0 ∧ o ≠ 70 := by unfold QId at ho; omega
  unfold wp_V_query wp_V_useInput
  refine ⟨s, h1, nm_r hc ⟨s, h1, ?_⟩⟩
  unfold wp_Snk_forget
  refine nm_e (nm_e ?_)
  generalize hX : setI (setI x s 1 0) s 2 0 = X
  have X1 : fI X s 1 = 0 := by rw [← hX, gI_ne (by decide), gI_at]
  have X2 : fI X s 2 = 0 := by rw [← hX, gI_at]
  have XI : ∀ a k, ¬ (a = s ∧ (k = 1 ∨ k = 2)) → fI X a k = fI x a k := by
    intro a k c
    rw [← hX]
    show (if a = s ∧ k = 2 then _ else if a = s ∧ k = 1 then _ else _) = _
    rw [if_neg (fun w => c ⟨w.1, Or.inr w.2⟩), if_neg (fun w => c ⟨w.1, Or.inl w.2⟩)]
  have Xr : X.2 = x.2 := by rw [← hX]; rfl
  clear hX
  have fX : FqV s o x X := ⟨fun a k c => XI a k (fun w => c (Or.inr (Or.inr w))), fun a k _ => by rw [Xr], fun a k _ => by rw [Xr], fun a _ => by rw [Xr], fun a _ => by rw [Xr], by rw [Xr]⟩
  have XR : ∀ a k, fR X a k = fR x a k := fun a k => by show X.2.2.1 a k = _; rw [Xr]
  have Xo : ∀ k, fI X o k = fI x o k := fun k => XI o k (fun w => so w.1.symm)
  have e97 : stC 0 8 = 97 := by decide
  have e10 : stC 0 3 = 10 := by decide
  have e70 : stC 97 5 = 70 := by decide
  rw [e97, e10, e70, XI 97 0 (fun w => s97.1 w.1.symm), h97]
  cases b with
  | false => exact bn_t rfl (pN rfl X fX X1 X2 ((XR 0 10).trans h10) ((XR 0 11).trans h11) Xo)
  | true =>
    refine bn_f (by decide) ?_
    by_cases c : n ≤ 2000
    · refine br_t (by show nI n ≤ nI 2000; (first | omega | (simp (disch := omega) only [Int32.le_iff_toInt_le, Int32.lt_iff_toInt_lt, z_eq, z_in, nI_toInt, z_cl, z_m1, z_sg, z_255, Int32.reduceToInt] <;> omega) | (simp only [Int32.le_iff_toInt_le, Int32.lt_iff_toInt_lt, z_eq, z_in, z_add, z_sub, z_mul, z_neg, z_nI, z_cl, z_sg, z_255, z_lit, Int32.reduceToInt] <;> omega))) ⟨s, (XR 0 1).trans h1, q, (XR s 0).trans hr, ?_⟩
      obtain ⟨hw, hR⟩ := hO rfl
      unfold wp_Scn_begin
      refine nm_e (nm_e (nm_e (nm_e ?_)))
      have eN : fN (setR X 10 0 (some q)) q = fN x q := by show X.2.2.2.2.2 q = _; rw [Xr]
      rw [eN, if_neg (by (first | omega | (simp (disch := omega) only [Int32.le_iff_toInt_le, Int32.lt_iff_toInt_lt, z_eq, z_in, nI_toInt, z_cl, z_m1, z_sg, z_255, Int32.reduceToInt] <;> omega) | (simp only [Int32.le_iff_toInt_le, Int32.lt_iff_toInt_lt, z_eq, z_in, z_add, z_sub, z_mul, z_neg, z_nI, z_cl, z_sg, z_255, z_lit, Int32.reduceToInt] <;> omega)))]
      generalize hY : setI (setI (setI (setR X 10 0 (some q)) 10 1 (nI n)) 10 2 0) 10 3 (-1) = Y
      have YI : ∀ a k, a ≠ 10 → fI Y a k = fI X a k := fun a k w => by
        rw [← hY, gI_no w, gI_no w, gI_no w]
        rfl
      have Y1 : fI Y 10 1 = nI n := by rw [← hY, gI_ne (by decide), gI_ne (by decide), gI_at]
      have Y2 : fI Y 10 2 = nI 0 := by rw [← hY, gI_ne (by decide), gI_at]; rfl
      have Y3 : fI Y 10 3 = -1 := by rw [← hY, gI_at]
      have YR0 : fR Y 10 0 = some q := by
        rw [← hY]
        show (if 10 = 10 ∧ 0 = 0 then some q else fR X 10 0) = some q
        exact if_pos ⟨rfl, rfl⟩
      have YR : ∀ a k, ¬ (a = 10 ∧ k = 0) → fR Y a k = fR x a k := by
        intro a k w
        rw [← hY, ← XR a k]
        exact if_neg w
      have Yr : Y.2.1 = x.2.1 ∧ Y.2.2.2 = x.2.2.2 := by
        rw [← hY]
        exact ⟨congrArg (fun w => w.1) Xr, congrArg (fun w => w.2.2) Xr⟩
      clear hY
      have fY : FqV s o x Y := ⟨fun a k w => (YI a k (fun e => w (Or.inl e))).trans (XI a k (fun e => w (Or.inr (Or.inr e)))), fun a k _ => by rw [Yr.1], fun a k w => YR a k (fun e => w (Or.inr (Or.inl e))), fun a _ => by rw [Yr.2], fun a _ => by rw [Yr.2], by rw [Yr.2]⟩
      have YA : ∀ a, fA Y a = fA x a := fun a => by show Y.2.2.2.1 a = _; rw [Yr.2]
      have YN : ∀ a, fN Y a = fN x a := fun a => by show Y.2.2.2.2.2 a = _; rw [Yr.2]
      have Ys1 : fI Y s 1 = 0 := (YI s 1 s97.2.1).trans X1
      have Ys2 : fI Y s 2 = 0 := (YI s 2 s97.2.1).trans X2
      refine ⟨o, (YR 0 11 (fun w => absurd w.1 (by decide))).trans h11, ?_⟩
      have conv : ∀ z, FqyC o Y z → FqV s o x z ∧ fI z s 1 = 0 ∧ fI z s 2 = 0 ∧ fR z 0 10 = some qq ∧ fR z 0 11 = some o := by
        intro z f
        refine ⟨fY.trans (f.mono (fun a k w => w.elim Or.inl (fun w => Or.inr (Or.inl w))) (fun _ _ w => w) (fun _ _ w => Or.inl w) (fun _ w => w) (fun _ w => w)), ?_, ?_, ?_, ?_⟩
        · exact (f.1 s 1 (fun w => w.elim s97.2.1 so)).trans Ys1
        · exact (f.1 s 2 (fun w => w.elim s97.2.1 so)).trans Ys2
        · exact (f.2.2.1 0 10 (fun w => o10.2.1 w.1.symm)).trans ((YR 0 10 (fun w => absurd w.1 (by decide))).trans h10)
        · exact (f.2.2.1 0 11 (fun w => o10.2.1 w.1.symm)).trans ((YR 0 11 (fun w => absurd w.1 (by decide))).trans h11)
      refine k_readQ (q := q) (T := T) (n := n) (F := F) (fun r hr => (YN r).trans (hL r hr)) hw ?_ ho ?_ c ⟨⟨YR0, Y1, hn, by rw [YN]; exact hqn, by rw [YN]; exact hq31, by rw [YA]; exact hb⟩, Y2, Y3, Nat.zero_le _⟩ (fun d z fz z0 => ?_) (fun d z fz sz z7 z0 => ?_)
      · unfold RepC at *
        rw [YI 70 0 (by decide), YI 70 1 (by decide), XI 70 0 (fun w => s97.2.2.1 w.1.symm), XI 70 1 (fun w => s97.2.2.1 w.1.symm), YA, YA, YA, YA, YA, YA, YA, YA, YA, YA, YA]
        exact hR
      · unfold skRow at hq
        omega
      · obtain ⟨c1, c2, c3, c4, c5⟩ := conv z fz
        exact br_f d (pE rfl c d z c1 c2 c3 c4 c5 z0)
      · obtain ⟨c1, c2, c3, c4, c5⟩ := conv z fz
        refine br_t rfl ⟨qq, c4, o, c5, nm_e (nm_e ⟨o, ?_, nm_e ?_⟩)⟩
        · rfl
        · have e1 : ∀ a k, ¬ (a = o ∧ k = 0) → fI (setI (setR (setR z 0 10 (some o)) 0 11 (some qq)) o 0 1) a k = fI z a k := by
            intro a k w
            show (if a = o ∧ k = 0 then _ else _) = _
            rw [if_neg w]
            rfl
          refine pO rfl c d _ (c1.trans ((Fg.r (Or.inr (Or.inr ⟨rfl, Or.inl rfl⟩))).trans ((Fg.r (Or.inr (Or.inr ⟨rfl, Or.inr rfl⟩))).trans (Fg.i (Or.inr (Or.inl rfl)))))) ?_ ?_ ?_ ?_ ?_ ?_ gI_at
          · rw [e1 s 1 (fun w => so w.1)]; exact c2
          · rw [e1 s 2 (fun w => so w.1)]; exact c3
          · rfl
          · rfl
          · unfold SqC at *
            rw [e1 o 1 (by omega), e1 o 5 (by omega), e1 o 8 (by omega), e1 o 13 (by omega), e1 o 15 (by omega)]
            exact sz
          · rw [e1 o 7 (by omega)]; exact z7
    · exact br_f (by show ¬ nI n ≤ nI 2000; (first | omega | (simp (disch := omega) only [Int32.le_iff_toInt_le, Int32.lt_iff_toInt_lt, z_eq, z_in, nI_toInt, z_cl, z_m1, z_sg, z_255, Int32.reduceToInt] <;> omega) | (simp only [Int32.le_iff_toInt_le, Int32.lt_iff_toInt_lt, z_eq, z_in, z_add, z_sub, z_mul, z_neg, z_nI, z_cl, z_sg, z_255, z_lit, Int32.reduceToInt] <;> omega))) (pL rfl (by omega) X fX X1 X2 ((XR 0 10).trans h10) ((XR 0 11).trans h11) Xo)
end
