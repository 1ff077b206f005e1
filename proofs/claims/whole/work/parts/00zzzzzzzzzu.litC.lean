/-! literals of a query, class -/
section
variable {b : Prop} {q n o : Nat} {T : Nat → Int32} {F : List SFd} {x y : St} {Q : Qy} {k : Nat}
/-- its text is said, but it isn't kept yet -/
def GlC (b : Prop) (q : Nat) (T : Nat → Int32) (n : Nat) (F : List SFd) (o : Nat) (x y : St) (k : Nat) (Q : Qy) (bs : List Int32) : Prop := FqC b o x y ∧ ScC y q T n k (-1) ∧ (CqI (fI y o 1) (fA y (o + 1)) (fA y (o + 2)) (fA y (o + 3)) Q.1 ∧ CqB (fI y o 5) (fA y (o + 4)) Q.2.1 ∧ CqS F (fI y o 8) (fA y (o + 5)) (fA y (o + 6)) (fA y (o + 7)) (fA y (o + 8)) Q.2.2.1) ∧ fI y o 13 = nI Q.2.2.2.length ∧ Q.2.2.2.length ≤ 64 ∧ fI y o 15 = nI ((ltB Q.2.2.2).length + bs.length) ∧ (∀ i, i < Q.2.2.2.length → fL y (o + 9) i = clL (ltB (Q.2.2.2.take i)).length (Q.2.2.2.getD i lt0)) ∧ (∀ i, i < (ltB Q.2.2.2).length → fA y (o + 10) i = ((ltB Q.2.2.2).getD i 0).toInt8.toInt32) ∧ (∀ i, i < bs.length → fA y (o + 10) ((ltB Q.2.2.2).length + i) = (bs.getD i 0).toInt8.toInt32) ∧ (ltB Q.2.2.2).length + bs.length ≤ k
theorem GdC.gl (h : GdC b q T n F o x y k Q) : GlC b q T n F o x y k Q [] := by
  obtain ⟨a1, a2, ⟨b1, b2, b3, ⟨c1, c2, c3, c4, c5⟩⟩, a8⟩ := h
  exact ⟨a1, a2, ⟨b1, b2, b3⟩, c1, c2, c3, c4, c5, fun i hi => absurd hi (Nat.not_lt_zero _), a8⟩
theorem k_q180F (hB : BsC x q n F o) {post : St → Prop} {e : Int32} {l1 l2 l3 l4 : Int32} {l5 : Int64} (he : ¬ e = -1) (h : FfC b q T n o x y e) (p : post y) : j_Qry_readLiteral_180 post o l1 l2 l3 l4 l5 y := by
  obtain ⟨t1, hL, hw, hR, t5, t6, t7, t8⟩ := hB.fq h.1
  obtain ⟨j, hs⟩ := h.2
  have m202 : j_Qry_readLiteral_202 post o l1 l2 l3 l4 l5 y := by
    unfold j_Qry_readLiteral_202
    refine ⟨10, t5, c_good ?_⟩
    rw [if_neg (by rw [hs.2.2.1]; exact he)]
    exact br_t rfl p
  have m194 : j_Qry_readLiteral_194 post o l1 l2 l3 l4 l5 y := by
    unfold j_Qry_readLiteral_194
    refine ⟨10, t5, c_refuse ?_⟩
    rw [if_neg (by rw [hs.2.2.1]; exact he)]
    exact m202
  unfold j_Qry_readLiteral_180
  exact ⟨fun _ => m194, fun _ => ⟨fun _ => m202, fun _ => m194⟩⟩
theorem k_q180 (hB : BsC x q n F o) {post : St → Prop} {ty got l2 l4 : Int32} {v : Int64} {bs : List Int32} {kb : Nat} {l5 : Int64} (hb : kb ≤ n) (h : GlC b q T n F o x y k Q bs) (h4 : l4 = if (got = ty ∨ got = 2 ∧ ty = 1) then 1 else 0) (h5 : l5 = clL (ltB Q.2.2.2).length (got, v, bs)) (p : ∀ z, RqC b q T n F o x (qPut ty got v bs kb k Q) z → post z) : j_Qry_readLiteral_180 post o ty l2 (nI kb) l4 l5 y := by
  obtain ⟨a1, a2, ⟨b1, b2, b3⟩, c1, c2, c3, c4, c5, c6, a8⟩ := h
  obtain ⟨t1, hL, hw, hR, t5, t6, t7, t8⟩ := hB.fq a1
  obtain ⟨-, -, -, -, -, -, -, -, s9, s10⟩ := stq t7
  obtain ⟨-, -, -, -, -, -, -, -, l9, l10⟩ := t7.len hL
  have ho : o ≠ 10 := by rcases t7 with e | e <;> omega
  have ne : ¬ nI kb = -1 := nI_nm1 (by omega)
  unfold qPut at p
  have m194 : (¬ (got = ty ∨ got = 2 ∧ ty = 1) ∨ Q.2.2.2.length = 64) → j_Qry_readLiteral_194 post o ty l2 (nI kb) l4 l5 y := by
    intro c
    rw [if_pos c] at p
    unfold j_Qry_readLiteral_194
    refine ⟨10, t5, c_refuse ?_⟩
    rw [if_pos a2.2.2.1]
    have f : FfC b q T n o x (setI y 10 3 (nI kb)) (nI kb) := ⟨a1.trans FrT.i.fq, k, a2.ill⟩
    unfold j_Qry_readLiteral_202
    refine ⟨10, t5, c_good ?_⟩
    rw [if_neg (by rw [gI_at]; exact ne)]
    exact br_t rfl (p _ (f.rs ne))
  unfold j_Qry_readLiteral_180
  by_cases c : got = ty ∨ got = 2 ∧ ty = 1
  · rw [if_pos c] at h4
    rw [h4] at m194 ⊢
    refine br_f (by decide) ?_
    rw [c1]
    by_cases d : Q.2.2.2.length = 64
    · exact br_f (by rw [d]; decide) (m194 (Or.inr d))
    · have hl : Q.2.2.2.length < 64 := by omega
      rw [if_neg (fun z => z.elim (fun z => z c) d)] at p
      refine br_t (by (first | omega | (simp (disch := omega) only [Int32.le_iff_toInt_le, Int32.lt_iff_toInt_lt, z_eq, z_in, nI_toInt, z_cl, z_m1, z_sg, z_255, Int32.reduceToInt] <;> omega) | (simp only [Int32.le_iff_toInt_le, Int32.lt_iff_toInt_lt, z_eq, z_in, z_add, z_sub, z_mul, z_neg, z_nI, z_cl, z_sg, z_255, z_lit, Int32.reduceToInt] <;> omega))) ?_
      unfold j_Qry_readLiteral_202
      refine ⟨10, t5, c_good ?_⟩
      rw [if_pos a2.2.2.1]
      refine br_f (by decide) ?_
      rw [s9, l9, c1]
      refine ⟨vp_in_nI hl (by decide), nm_e (nm_r (e' := setI (setL y (o + 9) (nI Q.2.2.2.length) l5) o 13 (nI (Q.2.2.2.length + 1))) (by show setI _ o 13 (fI y o 13 + 1) = _; rw [c1, nI_1]) (p _ ?_))⟩
      have cl : (nI Q.2.2.2.length).toNatClampNeg = Q.2.2.2.length := nI_clamp (by omega)
      have zL : fL (setI (setL y (o + 9) (nI Q.2.2.2.length) l5) o 13 (nI (Q.2.2.2.length + 1))) (o + 9) = vp_updL (fL y (o + 9)) Q.2.2.2.length l5 := by
        show (if o + 9 = o + 9 then vp_updL (fL y (o + 9)) (nI Q.2.2.2.length).toNatClampNeg l5 else _) = _
        rw [if_pos rfl, cl]
      have eb : ltB (Q.2.2.2 ++ [(got, v, bs)]) = ltB Q.2.2.2 ++ bs := ltB_snoc
      refine RqC.good ⟨(a1.trans (Fg.l rfl)).trans (Fg.i (Or.inr ⟨rfl, Or.inr (Or.inl rfl)⟩)), ?_, ⟨?_, ?_, ?_, ?_⟩, ?_⟩
      · have := a2.o19 (o := o) (a := 13) (v := nI (Q.2.2.2.length + 1)) ho
        exact this
      · rw [gI_ne (by decide)]; exact b1
      · rw [gI_ne (by decide)]; exact b2
      · rw [gI_ne (by decide)]; exact b3
      · rw [gI_at, gI_ne (by decide), zL]
        have key := CqL.add (l := (got, v, bs)) (r0' := vp_updL (fL y (o + 9)) Q.2.2.2.length l5) (r1' := fA y (o + 10)) (v := nI Q.2.2.2.length) (w := nI (ltB Q.2.2.2).length) ⟨rfl, c2, rfl, c4, c5⟩ hl (by rw [h5]) (fun _ _ => rfl) c6
        show CqL _ (fI y o 15) _ _ _
        rw [c3]
        exact key
      · show (ltB (Q.2.2.2 ++ [(got, v, bs)])).length ≤ k
        rw [eb, List.length_append]
        exact a8
  · rw [if_neg c] at h4
    rw [h4] at m194 ⊢
    exact br_t rfl (m194 (Or.inl c))
theorem k_qLit (hB : BsC x q n F o) {post : St → Prop} {ty : Int32} (h : GdC b q T n F o x y k Q) (p : ∀ z, RqC b q T n F o x (qLit T n ty k Q) z → post z) : wp_Qry_readLiteral post o ty y := by
  have t2 := hB.1
  obtain ⟨-, -, -, -, t5, -, t7, t8⟩ := hB.fq h.1
  obtain ⟨-, -, -, -, -, -, -, -, s9, s10⟩ := stq t7
  have ho : o ≠ 10 := by rcases t7 with e | e <;> omega
  unfold wp_Qry_readLiteral
  refine ⟨10, t5, k_qNext hB h (fun z hz f0 => ?_)⟩
  obtain ⟨-, hL, -, -, u5, -, -, -⟩ := hB.fq hz.1
  obtain ⟨-, -, -, -, -, -, -, -, l9, l10⟩ := t7.len hL
  have gk := hz.2.1.2.2.2
  refine ⟨10, u5, nm_r hz.2.1.2.1 ?_⟩
  unfold qLit at p
  by_cases c3 : skip T n k < n ∧ T (skip T n k) = 39
  · -- a text
    have n1 : ¬ isWd T n (skip T n k) [116, 114, 117, 101] := fun e => by
      have := e.2 0 (by decide)
      rw [Nat.add_zero, c3.2] at this
      exact absurd this (by decide)
    have n2 : ¬ isWd T n (skip T n k) [102, 97, 108, 115, 101] := fun e => by
      have := e.2 0 (by decide)
      rw [Nat.add_zero, c3.2] at this
      exact absurd this (by decide)
    rw [if_neg n1, if_neg n2, if_pos c3] at p
    rw [if_pos c3.1]
    refine bn_t c3.2 ⟨10, u5, ?_⟩
    obtain ⟨a1, a2, ⟨b1, b2, b3, ⟨d1, d2, d3, d4, d5⟩⟩, a8⟩ := hz
    rw [s10, d3]
    have hqr : q ≠ o + 10 := by rcases t7 with e | e <;> omega
    refine d_readQuoted a2 c3.1 hqr (by rw [l10]; decide) (by rw [l10]; omega) (fun e y2 f s2 e7 by2 hlen hpos => ?_) (fun e y2 j m f s2 e7 hm1 hm2 => ?_)
    · rw [if_pos e] at p
      have fI2 : ∀ k, fI y2 o k = fI z o k := fun k => f.1 o k ho
      have fq : FqC b o z y2 := by
        obtain ⟨g1, g2, g3, g4, g5, g6⟩ := f
        refine ⟨fun a k c => g1 a k (fun w => c (Or.inl w)), fun a k c => g2 a k c, fun a k _ => by rw [g3], fun a c => g4 a (fun w => c (Or.inl (by omega))), fun a _ => by rw [g6], by rw [g6]⟩
      have w17 : fR y2 o 17 = some 10 := (by rw [show y2.2.2.1 = z.2.2.1 from f.2.2.1]; exact u5 : y2.2.2.1 o 17 = some 10)
      refine ⟨10, w17, ?_⟩
      rw [fI2, d3, e7]
      refine k_refc (by omega) (by omega) ⟨10, w17, ?_⟩
      rw [fI2, d3, e7, nI_add]
      refine nm_e ?_
      have rA : ∀ a, a ≠ o + 10 → fA y2 a = fA z a := fun a c => f.2.2.2.1 a c
      have G : GlC b q T n F o x (setI y2 o 15 (nI ((ltB Q.2.2.2).length + (qtO T n (skip T n k + 1) []).2.2.length))) (qtO T n (skip T n k + 1) []).2.1 Q (qtO T n (skip T n k + 1) []).2.2 := by
        refine ⟨(a1.trans fq).trans (Fg.i (Or.inr ⟨rfl, Or.inr (Or.inr (Or.inl rfl))⟩)), s2.o19 ho, ⟨?_, ?_, ?_⟩, ?_, d2, gI_at, ?_, ?_, ?_, by omega⟩
        · rw [gI_ne (by decide), fI2]
          show CqI _ (fA y2 (o + 1)) (fA y2 (o + 2)) (fA y2 (o + 3)) _
          rw [rA _ (by omega), rA _ (by omega), rA _ (by omega)]; exact b1
        · rw [gI_ne (by decide), fI2]
          show CqB _ (fA y2 (o + 4)) _
          rw [rA _ (by omega)]; exact b2
        · rw [gI_ne (by decide), fI2]
          show CqS F _ (fA y2 (o + 5)) (fA y2 (o + 6)) (fA y2 (o + 7)) (fA y2 (o + 8)) _
          rw [rA _ (by omega), rA _ (by omega), rA _ (by omega), rA _ (by omega)]; exact b3
        · rw [gI_ne (by decide), fI2]; exact d1
        · intro i hi
          show y2.2.2.2.2.1 (o + 9) i = _
          rw [f.2.2.2.2.2]; exact d4 i hi
        · intro i hi
          show y2.2.2.2.1 (o + 10) i = _
          rw [f.2.2.2.2.1 i (Or.inl hi)]; exact d5 i hi
        · intro i hi
          exact (by2 i hi).1
      unfold j_Qry_readLiteral_82
      have v5 : lN (256 * (ltB Q.2.2.2).length + (qtO T n (skip T n k + 1) []).2.2.length) = clL (ltB Q.2.2.2).length (3, 0, (qtO T n (skip T n k + 1) []).2.2) := by
        unfold clL
        rw [if_pos rfl]
      by_cases ct : ty = 3
      · exact bn_t ct (k_q180 hB gk G (by rw [if_pos (Or.inl ct.symm)]) v5 p)
      · exact bn_f ct (k_q180 hB gk G (by rw [if_neg (fun w => w.elim (fun w => ct w.symm) (fun w => absurd w.1 (by decide)))]) v5 p)
    · rw [if_neg e] at p
      have fI2 : ∀ k, fI y2 o k = fI z o k := fun k => f.1 o k ho
      have fq : FqC b o z y2 := by
        obtain ⟨g1, g2, g3, g4, g5, g6⟩ := f
        refine ⟨fun a k c => g1 a k (fun w => c (Or.inl w)), fun a k c => g2 a k c, fun a k _ => by rw [g3], fun a c => g4 a (fun w => c (Or.inl (by omega))), fun a _ => by rw [g6], by rw [g6]⟩
      have w17 : fR y2 o 17 = some 10 := (by rw [show y2.2.2.1 = z.2.2.1 from f.2.2.1]; exact u5 : y2.2.2.1 o 17 = some 10)
      refine ⟨10, w17, ?_⟩
      rw [fI2, d3, e7]
      refine k_refc (by omega) (by omega) ⟨10, w17, nm_e ?_⟩
      unfold j_Qry_readLiteral_82
      have ff : ∀ v, FfC b q T n o x (setI y2 o 15 v) (qtO T n (skip T n k + 1) []).1 := fun v => ⟨(a1.trans fq).trans (Fg.i (Or.inr ⟨rfl, Or.inr (Or.inr (Or.inl rfl))⟩)), j, s2.o19 ho⟩
      exact ⟨fun _ => k_q180F hB e (ff _) (p _ ((ff _).rs e)), fun _ => k_q180F hB e (ff _) (p _ ((ff _).rs e))⟩
  · have r39 : ¬ (if skip T n k < n then T (skip T n k) else -1) = 39 := fun e => c3 (by
      by_cases d : skip T n k < n
      · rw [if_pos d] at e; exact ⟨d, e⟩
      · rw [if_neg d] at e; exact absurd e (by decide))
    refine bn_f r39 ⟨10, u5, d_atNumber hz.2.1 (fun w f s => ?_)⟩
    rw [skip_skip] at s ⊢
    have gw : GdC b q T n F o x w (skip T n k) Q := hz.mv t7 f s (Nat.le_refl _)
    obtain ⟨-, -, -, -, v5, -, -, -⟩ := hB.fq gw.1
    by_cases c4 : skip T n k < n ∧ (T (skip T n k) = 45 ∨ dgt (T (skip T n k)))
    · -- a number
      have n1 : ∀ c : Nat, 97 ≤ c → c ≤ 122 → ¬ T (skip T n k) = nI c := fun c h1 h2 e => by
        rcases c4.2 with d | d
        · rw [d] at e
          have : (45 : Int32) = nI 45 := rfl
          rw [this, nI_eq (by omega) (by omega)] at e
          omega
        · rw [e] at d
          unfold dgt at d
          (first | omega | (simp (disch := omega) only [Int32.le_iff_toInt_le, Int32.lt_iff_toInt_lt, z_eq, z_in, nI_toInt, z_cl, z_m1, z_sg, z_255, Int32.reduceToInt] at * <;> omega) | (simp only [Int32.le_iff_toInt_le, Int32.lt_iff_toInt_lt, z_eq, z_in, z_add, z_sub, z_mul, z_neg, z_nI, z_cl, z_sg, z_255, z_lit, Int32.reduceToInt] at * <;> omega))
      have n2 : ¬ isWd T n (skip T n k) [116, 114, 117, 101] := fun e => n1 116 (by decide) (by decide) (e.2 0 (by decide))
      have n3 : ¬ isWd T n (skip T n k) [102, 97, 108, 115, 101] := fun e => n1 102 (by decide) (by decide) (e.2 0 (by decide))
      rw [if_neg n2, if_neg n3, if_neg c3] at p
      rw [if_pos c4]
      refine br_f (by decide) ⟨10, v5, d_readNumber s (fun k2 v ok _ y2 f2 s2 e6 => ?_) (fun k2 e er y2 f2 s2 => ?_)⟩
      · have := nmOk_k gk ok
        rw [nmF_ok ok, if_pos rfl] at p
        have g2 : GdC b q T n F o x y2 k2 Q := gw.mv t7 f2 s2 (by omega)
        obtain ⟨-, -, -, -, w5, -, -, -⟩ := hB.fq g2.1
        refine ⟨10, w5, nm_r e6 (k_whl ?_)⟩
        refine k_q180 hB gk g2.gl ?_ ?_ p
        · by_cases d : whl ty
          · rw [if_pos d, if_pos (d.elim (fun e => Or.inr ⟨rfl, e⟩) (fun e => Or.inl e.symm))]
          · rw [if_neg d, if_neg (fun e => d (e.elim (fun e => Or.inr e.symm) (fun e => Or.inl e.2)))]
        · unfold clL
          rw [if_neg (show ¬ (2 : Int32) = 3 by decide)]
      · have er : nmEr T n (skip T n k) k2 e := er.elim (fun e => e) (fun e => by obtain ⟨v, -, e, -⟩ := e; exact absurd e (by decide))
        have := nmEr_e gk er
        obtain ⟨e1, e2⟩ := nmF_er er
        have ne : ¬ nI e = -1 := nI_nm1 (by omega)
        rw [e1, if_neg ne] at p
        have ff : FfC b q T n o x y2 (nI e) := gw.er f2 s2
        obtain ⟨-, -, -, -, w5, -, -, -⟩ := hB.fq ff.1
        exact ⟨10, w5, nm_e (k_whl (k_q180F hB ne ff (p y2 (ff.rs ne))))⟩
    · -- a truth
      rw [if_neg c4]
      rw [if_neg c3] at p
      have nf : nmF T n (skip T n k) = (nI (skip T n k), nmK T n (skip T n k), 0) := by
        have ek : nmK T n (skip T n k) = skip T n k := by
          unfold nmK
          rw [if_neg (fun e => c4 ⟨e.1, Or.inl e.2⟩)]
        unfold nmF
        rw [if_pos (by rw [ek]; exact fun e => c4 ⟨e.1, Or.inr e.2⟩), ek]
        split
        · rename_i e; exact congrArg (fun m => (nI m, skip T n k, (0 : Int64))) e.symm
        · rfl
      have ne : ¬ nI (skip T n k) = -1 := nI_nm1 (by omega)
      refine br_t rfl ⟨10, v5, k_qWord hB st_tr (by decide) gw (fun c5 y2 g2 _ _ => br_f (by decide) ?_) (fun c5 y2 g2 _ => br_t rfl ?_)⟩
      · have g2 : GdC b q T n F o x y2 (skip T n (skip T n k) + 4) Q := g2
        rw [skip_skip] at c5 g2
        rw [if_pos c5] at p
        unfold j_Qry_readLiteral_140 j_Qry_readLiteral_169 j_Qry_readLiteral_178
        refine bn_f (by decide) ?_
        by_cases d : ty = 0
        · exact bn_t d (k_q180 hB gk g2.gl (by rw [if_pos (Or.inl d.symm)]) rfl p)
        · exact bn_f d (k_q180 hB gk g2.gl (by rw [if_neg (fun e => e.elim (fun e => d e.symm) (fun e => absurd e.1 (by decide)))]) rfl p)
      · rw [skip_skip] at c5 g2
        rw [if_neg c5] at p
        obtain ⟨-, -, -, -, w5, -, -, -⟩ := hB.fq g2.1
        unfold j_Qry_readLiteral_140
        refine bn_t rfl ⟨10, w5, k_qWord hB st_fa (by decide) g2 (fun c6 y3 g3 _ _ => bn_f (by decide) ?_) (fun c6 y3 g3 _ => bn_t rfl ?_)⟩
        · have g3 : GdC b q T n F o x y3 (skip T n (skip T n k) + 5) Q := g3
          rw [skip_skip] at c6 g3
          rw [if_pos c6] at p
          unfold j_Qry_readLiteral_169 j_Qry_readLiteral_178
          by_cases d : ty = 0
          · exact bn_t d (k_q180 hB gk g3.gl (by rw [if_pos (Or.inl d.symm)]) rfl p)
          · exact bn_f d (k_q180 hB gk g3.gl (by rw [if_neg (fun e => e.elim (fun e => d e.symm) (fun e => absurd e.1 (by decide)))]) rfl p)
        · rw [skip_skip] at c6 g3
          rw [if_neg c6, nf, if_neg ne] at p
          obtain ⟨-, -, -, -, x5, -, -, -⟩ := hB.fq g3.1
          refine ⟨10, x5, k_qRef hB (by omega) (RqC.good g3) (fun y4 h4 => ?_)⟩
          have ff : FfC b q T n o x y4 (nI (skip T n k)) := h4.ft ne
          unfold j_Qry_readLiteral_169 j_Qry_readLiteral_178
          exact ⟨fun _ => k_q180F hB ne ff (p y4 (ff.rs ne)), fun _ => k_q180F hB ne ff (p y4 (ff.rs ne))⟩
end
