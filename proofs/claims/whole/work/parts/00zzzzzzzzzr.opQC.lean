/-! steps of reading a query, class -/
section
variable {b : Prop} {q n o : Nat} {T : Nat → Int32} {F : List SFd} {x y z : St} {r : QR} {Q : Qy} {k k' : Nat}
theorem k_qRef (hB : BsC x q n F o) {post : St → Prop} {e : Nat} (he : e < 2 ^ 31) (h : RqC b q T n F o x r y) (p : ∀ z, RqC b q T n F o x (qEr e r) z → post z) : wp_Scn_refuse post 10 (nI e) y := by
  refine c_refuse (p _ ?_)
  unfold qEr
  rw [h.e]
  by_cases c : r.1 = -1
  · rw [if_pos c, if_pos c]
    have g := h.gd c
    exact FfC.rs (g.er FrT.i g.2.1.ill) (nI_nm1 he)
  · rw [if_neg c, if_neg c]
    exact h
theorem k_qNext (hB : BsC x q n F o) {post : Int32 → St → Prop} (h : GdC b q T n F o x y k Q) (p : ∀ z, GdC b q T n F o x z (skip T n k) Q → FrT y z → post (if skip T n k < n then T (skip T n k) else -1) z) : wp_Scn_next post 10 y := by
  have hs := h.2.1
  have h2 := hB.1
  exact c_next hs.1 hs.2.1 (by have := hs.2.2.2; omega) (p _ (h.mv hB.2.2.2.2.2.2.1 FrT.i (hs.go (skip_le hs.2.2.2)) (skip_ge _ _ _)) FrT.i)
theorem k_qWord (hB : BsC x q n F o) {post : Int32 → St → Prop} {j : Nat} {w : List Nat} (hj : isSt j w) (hl : 0 < w.length) (h : GdC b q T n F o x y k Q)
    (p1 : isWd T n (skip T n k) w → ∀ z, GdC b q T n F o x z (skip T n k + w.length) Q → fI z 10 4 = nI (skip T n k) → FrT y z → post 1 z)
    (p0 : ¬ isWd T n (skip T n k) w → ∀ z, GdC b q T n F o x z (skip T n k) Q → FrT y z → post 0 z) : wp_Scn_takeWord post 10 j y := by
  have hs := h.2.1
  have ho := hB.2.2.2.2.2.2.1
  have sl := @skip_le T n k hs.2.2.2
  have sg := skip_ge T n k
  refine c_takeWord hs.1 hj hl hs.2.1 hs.2.2.2 (fun c => ?_) (fun c y2 hy => ?_)
  · have f : FrT y (tkW y 10 (skip T n k) w.length) := (FrT.i.trans FrT.i).trans FrT.i
    refine p1 c _ (h.mv ho f (((hs.oth (by decide) (by decide) (by decide)).go (wd_end c sl)).oth (by decide) (by decide) (by decide)) (by omega)) ?_ f
    unfold tkW
    rw [gI_ne (by decide), gI_ne (by decide), gI_at]
  · rcases hy with rfl | ⟨w, rfl⟩
    · exact p0 c _ (h.mv ho FrT.i (hs.go sl) sg) FrT.i
    · exact p0 c _ (h.mv ho ((FrT.i.trans FrT.i).trans FrT.i) (((hs.oth (by decide) (by decide) (by decide)).go sl).oth (by decide) (by decide) (by decide)) sg) ((FrT.i.trans FrT.i).trans FrT.i)
theorem k_qSign (hB : BsC x q n F o) {post : Int32 → St → Prop} {c : Int32} (hc : 0 ≤ c) (h : GdC b q T n F o x y k Q)
    (p1 : skip T n k < n → T (skip T n k) = c → ∀ z, GdC b q T n F o x z (skip T n k + 1) Q → FrT y z → post 1 z)
    (p0 : ¬ (skip T n k < n ∧ T (skip T n k) = c) → ∀ z, GdC b q T n F o x z (skip T n k) Q → FrT y z → post 0 z) : wp_Scn_takeSign post 10 c y := by
  have ho := hB.2.2.2.2.2.2.1
  have sg := skip_ge T n k
  exact d_takeSign h.2.1 hc (fun a1 a2 z f s => p1 a1 a2 z (h.mv ho f s (by omega)) f) (fun a z f s => p0 a z (h.mv ho f s sg) f)
theorem k_qNeedS (hB : BsC x q n F o) {post : St → Prop} {c : Int32} (hc : 0 ≤ c) (h : RqC b q T n F o x r y) (p : ∀ z, RqC b q T n F o x (qSgn T n c r) z → FrT y z → post z) : wp_Scn_needSign post 10 c y := by
  have ho := hB.2.2.2.2.2.2.1
  have t2 := hB.1
  by_cases d : r.1 = -1
  · have g := h.gd d
    have sg := skip_ge T n r.2.1
    have sl := @skip_le T n r.2.1 g.2.1.2.2.2
    refine d_needSign g.2.1 hc (fun a1 a2 z f s => p z ?_ f.t) (fun a z f s => p z ?_ f.t)
    · unfold qSgn
      rw [if_neg (fun e => e d), if_pos ⟨a1, a2⟩]
      exact RqC.good (g.mv ho f.t s (by omega))
    · unfold qSgn
      rw [if_neg (fun e => e d), if_neg a]
      exact FfC.rs (g.er f.t s) (nI_nm1 (by omega))
  · refine d_needSign_i (by rw [h.e]; exact d) (p y ?_ (FrT.refl y))
    rw [qSgn_b d]
    exact h
theorem k_qNeedW (hB : BsC x q n F o) {post : St → Prop} {j : Nat} {w : List Nat} (hj : isSt j w) (hl : 0 < w.length) (h : RqC b q T n F o x r y) (p : ∀ z, RqC b q T n F o x (qWrd T n w r) z → FrT y z → post z) : wp_Scn_needWord post 10 j y := by
  have ho := hB.2.2.2.2.2.2.1
  have t2 := hB.1
  by_cases d : r.1 = -1
  · have g := h.gd d
    have sg := skip_ge T n r.2.1
    have sl := @skip_le T n r.2.1 g.2.1.2.2.2
    refine d_needWord g.2.1 hj hl (fun a z f s => p z ?_ f.t) (fun a z f s => p z ?_ f.t)
    · unfold qWrd
      rw [if_neg (fun e => e d), if_pos a]
      exact RqC.good (g.mv ho f.t s (by omega))
    · unfold qWrd
      rw [if_neg (fun e => e d), if_neg a]
      exact FfC.rs (g.er f.t s) (nI_nm1 (by omega))
  · unfold wp_Scn_needWord
    refine c_good ?_
    rw [if_neg (by rw [h.e]; exact d)]
    refine br_t rfl (p y ?_ (FrT.refl y))
    unfold qWrd
    rw [if_pos d]
    exact h
theorem k_qGood (h : RqC b q T n F o x r y) {post : Int32 → St → Prop} (p1 : r.1 = -1 → post 1 y) (p0 : ¬ r.1 = -1 → post 0 y) : wp_Scn_good post 10 y := by
  refine c_good ?_
  rw [h.e]
  by_cases c : r.1 = -1
  · rw [if_pos c]; exact p1 c
  · rw [if_neg c]; exact p0 c
theorem k_qAdd (hB : BsC x q n F o) {post : St → Prop} {p : Nat} {l : QSt} (hp : p < 2 ^ 31) (h : RqC b q T n F o x r y) (pp : ∀ z, RqC b q T n F o x (qAdd p l r) z → post z) : wp_Qry_addStep post o (clS F l).1 (nI p) (clS F l).2.1 (clS F l).2.2.1 (clS F l).2.2.2 y := by
  obtain ⟨t1, t2, t3, t4, t5, t6, t7, t8⟩ := hB.fq h.fq
  obtain ⟨s1, s2, s3, s4, s5, s6, s7, s8, s9, s10⟩ := stq t7
  obtain ⟨l1, l2, l3, l4, l5, l6, l7, l8, l9, l10⟩ := t7.len t2
  have ho : o ≠ 10 := by rcases t7 with e | e <;> omega
  unfold wp_Qry_addStep
  refine ⟨10, t5, k_qGood h (fun d => ?_) (fun d => ?_)⟩
  · refine bn_f (by decide) ?_
    have g := h.gd d
    obtain ⟨a1, a2, ⟨b1, b2, b3, b4⟩, a8⟩ := g
    rw [b3.1]
    have hl := b3.2.1
    by_cases c : r.2.2.2.2.1.length = 64
    · refine br_f (by rw [c]; decide) ⟨10, t5, k_qRef hB hp h (fun z hz => pp z ?_)⟩
      unfold qEr at hz
      rw [if_pos d] at hz
      unfold qAdd
      rw [if_neg (fun w => w d), if_pos c]
      exact hz
    · have e8 : fI y o 8 = nI r.2.2.2.2.1.length := b3.1
      generalize hN : r.2.2.2.2.1.length = N at *
      have hN64 : N < 64 := by omega
      have ii : vp_in (nI N) 64 := vp_in_nI hN64 (by decide)
      have cl : (nI N).toNatClampNeg = N := nI_clamp (by omega)
      rw [s5, s6, s7, s8, l5]
      refine br_t (by (first | omega | (simp (disch := omega) only [Int32.le_iff_toInt_le, Int32.lt_iff_toInt_lt, z_eq, z_in, nI_toInt, z_cl, z_m1, z_sg, z_255, Int32.reduceToInt] <;> omega) | (simp only [Int32.le_iff_toInt_le, Int32.lt_iff_toInt_lt, z_eq, z_in, z_add, z_sub, z_mul, z_neg, z_nI, z_cl, z_sg, z_255, z_lit, Int32.reduceToInt] <;> omega))) ⟨ii, nm_e ?_⟩
      show vp_in (fI y o 8) (fN y (o + 6)) ∧ _
      rw [e8, l6]
      refine ⟨ii, nm_r (e' := setA (setA y (o + 5) (nI N) (clS F l).1) (o + 6) (nI N) (clS F l).2.1) (by show setA _ (o + 6) (fI y o 8) _ = _; rw [e8]) ?_⟩
      show vp_in (fI y o 8) (fN y (o + 7)) ∧ _
      rw [e8, l7]
      refine ⟨ii, nm_r (e' := setA (setA (setA y (o + 5) (nI N) (clS F l).1) (o + 6) (nI N) (clS F l).2.1) (o + 7) (nI N) (clS F l).2.2.1) (by show setA _ (o + 7) (fI y o 8) _ = _; rw [e8]) ?_⟩
      show vp_in (fI y o 8) (fN y (o + 8)) ∧ _
      rw [e8, l8]
      refine ⟨ii, nm_r (e' := setA (setA (setA (setA y (o + 5) (nI N) (clS F l).1) (o + 6) (nI N) (clS F l).2.1) (o + 7) (nI N) (clS F l).2.2.1) (o + 8) (nI N) (clS F l).2.2.2) (by show setA _ (o + 8) (fI y o 8) _ = _; rw [e8]) ?_⟩
      refine nm_r (e' := setI (setA (setA (setA (setA y (o + 5) (nI N) (clS F l).1) (o + 6) (nI N) (clS F l).2.1) (o + 7) (nI N) (clS F l).2.2.1) (o + 8) (nI N) (clS F l).2.2.2) o 8 (nI (N + 1))) (by show setI _ o 8 (fI y o 8 + 1) = _; rw [e8, nI_1]) (pp _ ?_)
      generalize hz : setI (setA (setA (setA (setA y (o + 5) (nI N) (clS F l).1) (o + 6) (nI N) (clS F l).2.1) (o + 7) (nI N) (clS F l).2.2.1) (o + 8) (nI N) (clS F l).2.2.2) o 8 (nI (N + 1)) = z
      have zI : ∀ a k, ¬ (a = o ∧ k = 8) → fI z a k = fI y a k := fun a k c => by rw [← hz]; show (if a = o ∧ k = 8 then _ else _) = _; rw [if_neg c]; rfl
      have z8 : fI z o 8 = nI (N + 1) := by rw [← hz]; exact gI_at
      have z2 : z.2.1 = y.2.1 ∧ z.2.2.1 = y.2.2.1 ∧ z.2.2.2.2 = y.2.2.2.2 := by rw [← hz]; exact ⟨rfl, rfl, rfl⟩
      have zA : ∀ a, a ≠ o + 5 → a ≠ o + 6 → a ≠ o + 7 → a ≠ o + 8 → fA z a = fA y a := fun a c1 c2 c3 c4 => by
        rw [← hz]
        show fA (setA (setA (setA (setA y _ _ _) _ _ _) _ _ _) _ _ _) a = _
        rw [gA_ne c4, gA_ne c3, gA_ne c2, gA_ne c1]
      have z5 : fA z (o + 5) = upd (fA y (o + 5)) N (clS F l).1 := by
        rw [← hz]
        show fA (setA (setA (setA (setA y _ _ _) _ _ _) _ _ _) _ _ _) (o + 5) = _
        rw [gA_ne (by omega), gA_ne (by omega), gA_ne (by omega), gA_at, cl]
      have z6 : fA z (o + 6) = upd (fA y (o + 6)) N (clS F l).2.1 := by
        rw [← hz]
        show fA (setA (setA (setA (setA y _ _ _) _ _ _) _ _ _) _ _ _) (o + 6) = _
        rw [gA_ne (by omega), gA_ne (by omega), gA_at, gA_ne (by omega), cl]
      have z7 : fA z (o + 7) = upd (fA y (o + 7)) N (clS F l).2.2.1 := by
        rw [← hz]
        show fA (setA (setA (setA (setA y _ _ _) _ _ _) _ _ _) _ _ _) (o + 7) = _
        rw [gA_ne (by omega), gA_at, gA_ne (by omega), gA_ne (by omega), cl]
      have z8r : fA z (o + 8) = upd (fA y (o + 8)) N (clS F l).2.2.2 := by
        rw [← hz]
        show fA (setA (setA (setA (setA y _ _ _) _ _ _) _ _ _) _ _ _) (o + 8) = _
        rw [gA_at, gA_ne (by omega), gA_ne (by omega), gA_ne (by omega), cl]
      clear hz
      unfold qAdd
      rw [if_neg (fun w => w d), if_neg (by rw [hN]; exact c)]
      refine RqC.good ⟨a1.trans ⟨fun a k c2 => zI a k (fun e => c2 (Or.inr ⟨e.1, Or.inl e.2⟩)), fun a k _ => by rw [z2.1], fun a k _ => by rw [z2.2.1], fun a c2 => zA a (fun e => c2 (Or.inl (by omega))) (fun e => c2 (Or.inl (by omega))) (fun e => c2 (Or.inl (by omega))) (fun e => c2 (Or.inl (by omega))), fun a _ => by rw [z2.2.2], by rw [z2.2.2]⟩, ?_, ⟨?_, ?_, ?_, ?_⟩, a8⟩
      · obtain ⟨⟨h1, h2, h3, h4, h5, h6⟩, h7, h8, h9⟩ := a2
        have eq : fA z q = fA y q := zA q (by rcases t7 with e | e <;> omega) (by rcases t7 with e | e <;> omega) (by rcases t7 with e | e <;> omega) (by rcases t7 with e | e <;> omega)
        have e10 : ∀ k, fI z 10 k = fI y 10 k := fun k => zI 10 k (fun e => ho e.1.symm)
        have eN : fN z q = fN y q := by show z.2.2.2.2.2 q = _; rw [z2.2.2]
        refine ⟨⟨?_, by rw [e10]; exact h2, h3, by rw [eN]; exact h4, by rw [eN]; exact h5, by rw [eq]; exact h6⟩, by rw [e10]; exact h7, by rw [e10]; exact h8, h9⟩
        show z.2.2.1 10 0 = _
        rw [z2.2.1]; exact h1
      · rw [zI o 1 (by omega), zA _ (by omega) (by omega) (by omega) (by omega), zA _ (by omega) (by omega) (by omega) (by omega), zA _ (by omega) (by omega) (by omega) (by omega)]; exact b1
      · rw [zI o 5 (by omega), zA _ (by omega) (by omega) (by omega) (by omega)]; exact b2
      · rw [z8, ← hN]
        exact b3.add (by omega) (by rw [hN]; exact z5) (by rw [hN]; exact z6) (by rw [hN]; exact z7) (by rw [hN]; exact z8r)
      · rw [zI o 13 (by omega), zI o 15 (by omega), zA _ (by omega) (by omega) (by omega) (by omega)]
        show CqL _ _ (z.2.2.2.2.1 (o + 9)) _ _
        rw [z2.2.2]; exact b4
  · refine bn_t rfl (pp y ?_)
    rw [qAdd_b d]
    exact h
end
