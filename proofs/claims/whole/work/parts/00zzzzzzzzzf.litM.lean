/-! literals of a query, model -/
section
variable {b : Prop} {T : Nat → Int32} {n s : Nat} {F : List SFd} {x y : St} {Q : Qy}
theorem FqM.q (f : FrQ x y) : FqM b s x y := by
  obtain ⟨f1, f2, f3, f4, f5⟩ := f
  refine ⟨fun o k c => f1 o k (fun z => c ⟨z.1, z.2.elim Or.inl (fun z => Or.inr (z.elim Or.inl (fun z => Or.inr (Or.inl z))))⟩), f3, f4, fun a i c => ?_, fun a i c => ?_, ?_⟩
  · rw [f2 a (fun z => c (Or.inl z))]
  · rw [f5]
  · rw [f5]
theorem SqM.cg {x y : St} (h : SqM x s Q) (e : ∀ a, 79 ≤ a → a ≤ 91 → fA y a = fA x a) (e2 : fL y 93 = fL x 93) : SqM y s Q := by
  unfold SqM at *
  rw [e 79 (by decide) (by decide), e 80 (by decide) (by decide), e 81 (by decide) (by decide), e 82 (by decide) (by decide), e 83 (by decide) (by decide), e 84 (by decide) (by decide), e 85 (by decide) (by decide), e 86 (by decide) (by decide), e 87 (by decide) (by decide), e 88 (by decide) (by decide), e 89 (by decide) (by decide), e 90 (by decide) (by decide), e 91 (by decide) (by decide), e2]
  exact h
/-- said, but not yet kept -/
def GlM (b : Prop) (n s : Nat) (x y : St) (k : Nat) (Q : Qy) (bs : List Int32) : Prop := FqM b s x y ∧ fI y 0 17 = -1 ∧ fI y 0 16 = nI k ∧ k ≤ n ∧ SqM y s Q ∧ fI y 0 25 = nI ((ltB Q.2.2.2).length + bs.length) ∧ (∀ i, i < (ltB Q.2.2.2 ++ bs).length → fA y 16 i = (ltB Q.2.2.2 ++ bs).getD i 0) ∧ (ltB Q.2.2.2).length + bs.length ≤ k
theorem GdM.gl {k : Nat} (h : GdM b n s x y k Q) : GlM b n s x y k Q [] := by
  obtain ⟨a1, a2, a3, a4, a5, a6, a7, a8⟩ := h
  exact ⟨a1, a2, a3, a4, a5, a6, by rw [List.append_nil]; exact a7, a8⟩
theorem s_q103 (hB : BsM x T n F s) {post : St → Prop} {ty got : Int32} {v : Int64} {bs : List Int32} {kb k : Nat} (hb : kb ≤ n) (h : GlM b n s x y k Q bs) (p : ∀ z, RqM b n s x (qPut ty got v bs kb k Q) z → post z) :
    j_Mod_readLiteral_103 post ty (nI kb) (nI (64 * s + Q.2.2.2.length)) got v (nI (ltB Q.2.2.2).length) y := by
  obtain ⟨a1, a2, a3, a4, ⟨b1, b2, b3, b4⟩, a6, a7, a8⟩ := h
  obtain ⟨t1, t2, t3, t4, t5, t6, t7⟩ := hB.fq a1
  have hl := b4.2.1
  have l79 : fN y 79 = 12 := t3 79
  have in3 : vp_in (nI (4 * s + 3)) 12 := vp_in_nI (by omega) (by decide)
  have m147 : (¬ (got = ty ∨ got = 2 ∧ ty = 1) ∨ Q.2.2.2.length = 64) → j_Mod_readLiteral_147 post ty (nI kb) (nI (64 * s + Q.2.2.2.length)) got v (nI (ltB Q.2.2.2).length) y := by
    intro c
    unfold qPut at p
    rw [if_pos c] at p
    unfold j_Mod_readLiteral_147
    refine s_fail ?_
    rw [if_pos a2]
    exact p _ (FfM.rs ⟨a1.trans (FqM.i (Or.inr (Or.inl rfl))), rfl, k, a3, by omega⟩ (nI_nm1 (by omega)))
  have m129 : (got = ty ∨ got = 2 ∧ ty = 1) → j_Mod_readLiteral_129 post ty (nI kb) (nI (64 * s + Q.2.2.2.length)) got v (nI (ltB Q.2.2.2).length) y := by
    intro c
    unfold j_Mod_readLiteral_129
    rw [t6, q43, l79]
    refine ⟨in3, ?_⟩
    rw [rA_nI (by omega), b4.1]
    by_cases d : Q.2.2.2.length = 64
    · exact bn_t (by rw [d]; rfl) (m147 (Or.inr d))
    · refine bn_f (fun z => d ?_) ?_
      · rw [show (64 : Int32) = nI 64 from rfl, nI_eq (by omega) (by decide)] at z
        exact z
      · have hk : 64 * s + Q.2.2.2.length < 192 := by omega
        have ii : vp_in (nI (64 * s + Q.2.2.2.length)) 192 := vp_in_nI hk (by decide)
        refine ⟨by rw [show fN y 89 = 192 from t3 89]; exact ii, nm_e ⟨by show vp_in _ (fN y 93); rw [show fN y 93 = 192 from t3 93]; exact ii, nm_e ⟨by show vp_in _ (fN y 90); rw [show fN y 90 = 192 from t3 90]; exact ii, nm_e ⟨by show vp_in _ (fN y 91); rw [show fN y 91 = 192 from t3 91]; exact ii, nm_e ?_⟩⟩⟩⟩
        show vp_in ((4 * fI y 0 118) + 3) (fN y 79) ∧ vp_in ((4 * fI y 0 118) + 3) (fN y 79) ∧ _
        rw [t6, q43, l79]
        refine ⟨in3, in3, nm_r (e' := setA (setA (setA (setL (setA y 89 (nI (64 * s + Q.2.2.2.length)) got) 93 (nI (64 * s + Q.2.2.2.length)) v) 90 (nI (64 * s + Q.2.2.2.length)) (nI (ltB Q.2.2.2).length)) 91 (nI (64 * s + Q.2.2.2.length)) (nI bs.length)) 79 (nI (4 * s + 3)) (nI (Q.2.2.2.length + 1))) ?_ (p _ ?_)⟩
        · show setA (setA _ 91 _ (fI y 0 25 - nI (ltB Q.2.2.2).length)) 79 ((4 * fI y 0 118) + 3) (rA y 79 ((4 * fI y 0 118) + 3) + 1) = _
          rw [t6, q43, rA_nI (by omega), b4.1, nI_1, a6, nI_sub (by omega), show (ltB Q.2.2.2).length + bs.length - (ltB Q.2.2.2).length = bs.length by omega]
        · unfold qPut
          rw [if_neg (fun z => z.elim (fun z => z c) d)]
          have cl : (nI (64 * s + Q.2.2.2.length)).toNatClampNeg = 64 * s + Q.2.2.2.length := nI_clamp (by omega)
          have cl2 : (nI (4 * s + 3)).toNatClampNeg = 4 * s + 3 := nI_clamp (by omega)
          have eb : ltB (Q.2.2.2 ++ [(got, v, bs)]) = ltB Q.2.2.2 ++ bs := ltB_snoc
          refine RqM.good ⟨?_, a2, a3, a4, ⟨?_, ?_, ?_, ?_⟩, ?_, ?_, ?_⟩
          · have hA : ∀ a, 84 ≤ a → a ≤ 91 → qA b s a (64 * s + Q.2.2.2.length) := fun a z w => Or.inr (Or.inr ⟨by omega, by omega, by
              have : wq a = 64 := by unfold wq; rw [if_neg (by omega), if_neg (by omega), if_neg (by omega)]
              rw [this]; omega⟩)
            exact ((((a1.trans (FqM.a (by omega) (hA 89 (by decide) (by decide)))).trans (FqM.l (by omega) ⟨by omega, by omega⟩)).trans (FqM.a (by omega) (hA 90 (by decide) (by decide)))).trans (FqM.a (by omega) (hA 91 (by decide) (by decide)))).trans (FqM.a (by omega) (Or.inr (Or.inr ⟨by decide, by decide, by show 4 * s ≤ _; omega, by show _ < 4 * s + 4; omega⟩)))
          · exact b1.cg (c' := upd (fA y 79) (nI (4 * s + 3)).toNatClampNeg _) (by rw [cl2, upd_ne (by omega)])
          · exact b2.cg (c' := upd (fA y 79) (nI (4 * s + 3)).toNatClampNeg _) (by rw [cl2, upd_ne (by omega)])
          · exact b3.cg (c' := upd (fA y 79) (nI (4 * s + 3)).toNatClampNeg _) (by rw [cl2, upd_ne (by omega)])
          · refine b4.add (l := (got, v, bs)) (c' := upd (fA y 79) (nI (4 * s + 3)).toNatClampNeg (nI (Q.2.2.2.length + 1))) d (by rw [cl2, upd_at]) ?_ ?_ ?_ ?_
            · show upd (fA y 89) (nI (64 * s + Q.2.2.2.length)).toNatClampNeg got = _; rw [cl]
            · show upd (fA y 90) (nI (64 * s + Q.2.2.2.length)).toNatClampNeg _ = _; rw [cl]
            · show upd (fA y 91) (nI (64 * s + Q.2.2.2.length)).toNatClampNeg _ = _; rw [cl]
            · show vp_updL (fL y 93) (nI (64 * s + Q.2.2.2.length)).toNatClampNeg v = _; rw [cl]
          · show fI y 0 25 = nI (ltB (Q.2.2.2 ++ [(got, v, bs)])).length
            rw [eb, List.length_append]
            exact a6
          · show ∀ i, i < (ltB (Q.2.2.2 ++ [(got, v, bs)])).length → fA y 16 i = (ltB (Q.2.2.2 ++ [(got, v, bs)])).getD i 0
            rw [eb]
            exact a7
          · show (ltB (Q.2.2.2 ++ [(got, v, bs)])).length ≤ k
            rw [eb, List.length_append]
            exact a8
  unfold j_Mod_readLiteral_103
  refine br_t a2 ?_
  by_cases c1 : got = ty
  · exact br_t c1 (m129 (Or.inl c1))
  · refine br_f c1 ?_
    by_cases c2 : got = 2
    · refine bn_t c2 ?_
      by_cases c3 : ty = 1
      · exact bn_t c3 (m129 (Or.inr ⟨c2, c3⟩))
      · exact bn_f c3 (m147 (Or.inl (fun z => z.elim c1 (fun z => c3 z.2))))
    · exact bn_f c2 (m147 (Or.inl (fun z => z.elim c1 (fun z => c2 z.1))))
theorem s_qLit (hB : BsM x T n F s) {post : St → Prop} {ty : Int32} {k : Nat} (h : GdM b n s x y k Q) (p : ∀ z, RqM b n s x (qLit T n ty k Q) z → post z) : wp_Mod_readLiteral post ty y := by
  unfold wp_Mod_readLiteral
  refine s_qBlanks hB (RqM.good h) (fun z hz => ?_)
  have gz : GdM b n s x z (skip T n k) Q := hz.gd rfl
  obtain ⟨t1, t2, t3, t4, t5, t6, t7⟩ := hB.fq gz.1
  have gk := gz.2.2.2.1
  have b4 := gz.2.2.2.2.1.2.2.2
  have hl := b4.2.1
  refine nm_r gz.2.2.1 ?_
  rw [t6, q43, show fN z 79 = 12 from t3 79, rA_nI (by omega), b4.1, q64]
  refine ⟨vp_in_nI (by omega) (by decide), nm_e (nm_r gz.2.2.2.2.2.1 ?_)⟩
  unfold qLit at p
  refine s_qWord hB gw_tr.1 gw_tr.2 hz (fun _ c w hw => br_f (by decide) ?_) (fun c w hw => br_t rfl ?_)
  · have c : isWd T n (skip T n (skip T n k)) [116, 114, 117, 101] := c
    have hw : RqM b n s x (-1, skip T n (skip T n k) + 4, Q) w := hw
    rw [skip_skip] at c hw
    rw [if_pos c] at p
    exact s_q103 hB gk (hw.gd rfl).gl p
  have c : ¬ ((-1 : Int32) = -1 ∧ isWd T n (skip T n (skip T n k)) [116, 114, 117, 101]) := c
  have hw : RqM b n s x (-1, skip T n (skip T n k), Q) w := hw
  rw [skip_skip] at c hw
  have c : ¬ isWd T n (skip T n k) [116, 114, 117, 101] := fun q => c ⟨rfl, q⟩
  rw [if_neg c] at p
  refine s_qWord hB gw_fa.1 gw_fa.2 hw (fun _ c2 v hv => br_f (by decide) ?_) (fun c2 v hv => br_t rfl ?_)
  · have c2 : isWd T n (skip T n (skip T n k)) [102, 97, 108, 115, 101] := c2
    have hv : RqM b n s x (-1, skip T n (skip T n k) + 5, Q) v := hv
    rw [skip_skip] at c2 hv
    rw [if_pos c2] at p
    exact s_q103 hB gk (hv.gd rfl).gl p
  have c2 : ¬ ((-1 : Int32) = -1 ∧ isWd T n (skip T n (skip T n k)) [102, 97, 108, 115, 101]) := c2
  have hv : RqM b n s x (-1, skip T n (skip T n k), Q) v := hv
  rw [skip_skip] at c2 hv
  have c2 : ¬ isWd T n (skip T n k) [102, 97, 108, 115, 101] := fun q => c2 ⟨rfl, q⟩
  rw [if_neg c2] at p
  clear c c2 hw hz
  have gv : GdM b n s x v (skip T n k) Q := hv.gd rfl
  clear hv
  obtain ⟨a1, a2, a3, a4, a5, a6, a7, a8⟩ := gv
  obtain ⟨u1, -, u3, -⟩ := hB.fq a1
  refine s_look u1 a3 (by omega) ?_
  by_cases c3 : skip T n k < n ∧ T (skip T n k) = 39
  · rw [if_pos c3] at p
    rw [if_pos c3.1]
    refine bn_t c3.2 (s_readText u3 u1 a3 a4 a2 a6 (by omega) (fun q => absurd c3 q) (fun _ _ q w f e17 e16 sa q2 q3 => ?_) (fun _ _ q w j t f e17 e16 hj _ _ _ _ => ?_))
    · rw [if_pos q] at p
      refine s_q103 hB gk ⟨a1.trans (FqM.q f), e17, e16, q2, a5.cg (fun a z1 z2 => f.2.1 a (by omega)) (by show w.2.2.2.2.1 93 = v.2.2.2.2.1 93; rw [show w.2.2.2.2 = v.2.2.2.2 from f.2.2.2.2]), sa.1, fun i hi => ?_, by omega⟩ p
      rw [List.length_append] at hi
      by_cases d : i < (ltB Q.2.2.2).length
      · rw [sa.2.1 i d, a7 i d, List.getD_eq_getElem?_getD, List.getD_eq_getElem?_getD, List.getElem?_append_left d]
      · have := sa.2.2 (i - (ltB Q.2.2.2).length) (by omega)
        rw [show (ltB Q.2.2.2).length + (i - (ltB Q.2.2.2).length) = i by omega] at this
        rw [this, List.getD_eq_getElem?_getD, List.getD_eq_getElem?_getD, List.getElem?_append_right (by omega)]
    · rw [if_neg q] at p
      unfold j_Mod_readLiteral_103
      refine br_f (by rw [e17]; exact q) (p w (FfM.rs ⟨a1.trans (FqM.q f), e17, j, e16, by omega⟩ q))
  · rw [if_neg c3] at p
    refine bn_f (fun q => c3 ?_) (s_readNumber u1 a3 a4 a2 (fun k2 v2 q => ?_) (fun k2 e v2 q => ?_))
    · by_cases d : skip T n k < n
      · rw [if_pos d] at q; exact ⟨d, q⟩
      · rw [if_neg d] at q; exact absurd q (by decide)
    · have := nmOk_k a4 q
      rw [nmF_ok q, if_pos rfl] at p
      exact s_q103 hB gk (GdM.gl (GdM.k ⟨a1, a2, a3, a4, a5, a6, a7, a8⟩ (by omega) this.2)) p
    · have := nmEr_e a4 q
      obtain ⟨e1, e2⟩ := nmF_er q
      have ne : ¬ (nmF T n (skip T n k)).1 = -1 := by rw [e1]; exact nI_nm1 (by omega)
      rw [if_neg ne] at p
      unfold j_Mod_readLiteral_103
      refine br_f (by show ¬ nI e = -1; exact nI_nm1 (by omega)) (p _ ?_)
      rw [e1]
      exact FfM.rs (GdM.er ⟨a1, a2, a3, a4, a5, a6, a7, a8⟩ (by omega)) (nI_nm1 (by omega))
end
