/-! steps of reading a query, model -/
section
variable {b : Prop} {T : Nat → Int32} {n s : Nat} {F : List SFd} {x y : St} {r : QR}
theorem RqM.good {k : Nat} {Q : Qy} (h : GdM b n s x y k Q) : RqM b n s x (-1, k, Q) y := by
  unfold RqM
  rw [if_pos rfl]
  exact h
theorem RqM.gd (h : RqM b n s x r y) (hr : r.1 = -1) : GdM b n s x y r.2.1 r.2.2 := by
  unfold RqM at h
  rw [if_pos hr] at h
  exact h
theorem RqM.ft (h : RqM b n s x r y) (hr : ¬ r.1 = -1) : FfM b s x y r.1 := by
  unfold RqM at h
  rw [if_neg hr] at h
  exact h
theorem FfM.rs {e : Int32} {k : Nat} {Q : Qy} (h : FfM b s x y e) (he : ¬ e = -1) : RqM b n s x (e, k, Q) y := by
  unfold RqM
  rw [if_neg he]
  exact h
theorem RqM.fq (h : RqM b n s x r y) : FqM b s x y := by
  by_cases c : r.1 = -1
  · exact (h.gd c).1
  · exact (h.ft c).1
theorem RqM.e (h : RqM b n s x r y) : fI y 0 17 = r.1 := by
  by_cases c : r.1 = -1
  · rw [c]; exact (h.gd c).2.1
  · exact (h.ft c).2.1
theorem GdM.k {k k' : Nat} {Q : Qy} (h : GdM b n s x y k Q) (h1 : k ≤ k') (h2 : k' ≤ n) : GdM b n s x (setI y 0 16 (nI k')) k' Q := by
  obtain ⟨a1, a2, a3, a4, a5, a6, a7, a8⟩ := h
  exact ⟨a1.trans (FqM.i (Or.inl rfl)), a2, rfl, h2, a5, a6, a7, by omega⟩
theorem GdM.er {k k' e : Nat} {Q : Qy} (h : GdM b n s x y k Q) (h2 : k' ≤ 3000) : FfM b s x (setI (setI y 0 16 (nI k')) 0 17 (nI e)) (nI e) :=
  ⟨(h.1.trans (FqM.i (Or.inl rfl))).trans (FqM.i (Or.inr (Or.inl rfl))), rfl, k', rfl, h2⟩
theorem FfM.k {e : Int32} {k' : Nat} (h : FfM b s x y e) (h2 : k' ≤ 3000) : FfM b s x (setI y 0 16 (nI k')) e :=
  ⟨h.1.trans (FqM.i (Or.inl rfl)), h.2.1, k', rfl, h2⟩
theorem s_qBlanks (hB : BsM x T n F s) {post : St → Prop} (h : RqM b n s x r y) (p : ∀ z, RqM b n s x (r.1, skip T n r.2.1, r.2.2) z → post z) : wp_Mod_blanks post y := by
  obtain ⟨t1, t2, -⟩ := hB.fq h.fq
  by_cases c : r.1 = -1
  · have g := h.gd c
    refine s_blanks t1 g.2.2.1 (by have := g.2.2.2.1; omega) (p _ ?_)
    rw [c]
    exact RqM.good (g.k (skip_ge _ _ _) (skip_le g.2.2.2.1))
  · obtain ⟨g1, g2, j, g3, g4⟩ := h.ft c
    refine s_blanks t1 g3 (by omega) (p _ ?_)
    exact FfM.rs ((h.ft c).k (skip_b g4 (by omega))) c
theorem s_qFail (hB : BsM x T n F s) {post : St → Prop} {e : Nat} (he : e < 2 ^ 31) (h : RqM b n s x r y) (p : ∀ z, RqM b n s x (qEr e r) z → post z) : wp_Mod_fail post (nI e) y := by
  refine s_fail (p _ ?_)
  unfold qEr
  rw [h.e]
  by_cases c : r.1 = -1
  · rw [if_pos c, if_pos c]
    have g := h.gd c
    refine FfM.rs ⟨g.1.trans (FqM.i (Or.inr (Or.inl rfl))), rfl, r.2.1, g.2.2.1, ?_⟩ (nI_nm1 he)
    have := g.2.2.2.1
    have := hB.2.1
    omega
  · rw [if_neg c, if_neg c]
    exact h
theorem s_qSign (hB : BsM x T n F s) {post : Int32 → St → Prop} {c : Int32} (hc : 0 ≤ c) (h : RqM b n s x r y)
    (p1 : r.1 = -1 → skip T n r.2.1 < n → T (skip T n r.2.1) = c → ∀ z, RqM b n s x (-1, skip T n r.2.1 + 1, r.2.2) z → post 1 z)
    (p0 : ¬ (r.1 = -1 ∧ skip T n r.2.1 < n ∧ T (skip T n r.2.1) = c) → ∀ z, RqM b n s x (r.1, skip T n r.2.1, r.2.2) z → post 0 z) : wp_Mod_takesSign post c y := by
  obtain ⟨t1, t2, -⟩ := hB.fq h.fq
  by_cases d : r.1 = -1
  · have g := h.gd d
    refine s_takesSign t1 g.2.2.1 g.2.2.2.1 hc (fun a1 a2 a3 => p1 d a2 a3 _ (RqM.good (g.k ?_ a2))) (fun a => p0 (fun z => a ⟨g.2.1, z.2⟩) _ ?_)
    · have := skip_ge T n r.2.1
      omega
    · rw [d]
      exact RqM.good (g.k (skip_ge _ _ _) (skip_le g.2.2.2.1))
  · unfold wp_Mod_takesSign j_Mod_takesSign_20
    refine s_qBlanks hB h (fun z hz => bn_f (by rw [hz.e]; exact d) (p0 (fun w => d w.1) z hz))
theorem s_qWant (hB : BsM x T n F s) {post : St → Prop} {c : Int32} (hc : 0 ≤ c) (h : RqM b n s x r y) (p : ∀ z, RqM b n s x (qSgn T n c r) z → post z) : wp_Mod_wantSign post c y := by
  have t2 := hB.2.1
  unfold wp_Mod_wantSign
  refine s_qSign hB hc h (fun a1 a2 a3 z hz => bn_f (by decide) (p z ?_)) (fun a z hz => bn_t rfl ?_)
  · unfold qSgn
    rw [if_neg (fun w => w a1), if_pos ⟨a2, a3⟩]
    exact hz
  · by_cases d : r.1 = -1
    · have g := hz.gd d
      have g3 : fI z 0 16 = nI (skip T n r.2.1) := g.2.2.1
      have g4 : skip T n r.2.1 ≤ n := g.2.2.2.1
      rw [g3]
      refine s_qFail hB (by omega) hz (fun w hw => p w ?_)
      unfold qSgn
      rw [if_neg (fun w => w d), if_neg (fun w => a ⟨d, w⟩)]
      unfold qEr at hw
      rw [if_pos d] at hw
      exact hw
    · refine s_fail ?_
      rw [if_neg (by rw [hz.e]; exact d)]
      refine p z ?_
      unfold qSgn
      rw [if_pos d]
      exact (hz.ft d).rs d
theorem s_qSees (hB : BsM x T n F s) {post : Int32 → St → Prop} {W : Int64} {w : List Nat} (hg : goodW w) (hW : W = lN (bW w)) (h : RqM b n s x r y)
    (p1 : r.1 = -1 → isWd T n (skip T n r.2.1) w → ∀ z, RqM b n s x (-1, skip T n r.2.1, r.2.2) z → post 1 z)
    (p0 : ¬ (r.1 = -1 ∧ isWd T n (skip T n r.2.1) w) → ∀ z, RqM b n s x (r.1, skip T n r.2.1, r.2.2) z → post 0 z) : wp_Mod_sees post W y := by
  obtain ⟨t1, t2, -⟩ := hB.fq h.fq
  by_cases d : r.1 = -1
  · have g := h.gd d
    refine s_sees t1 g.2.2.1 g.2.2.2.1 hg hW (fun a1 a2 => p1 d a2 _ (RqM.good (g.k (skip_ge _ _ _) (skip_le g.2.2.2.1)))) (fun a => p0 (fun z => a ⟨g.2.1, z.2⟩) _ ?_)
    rw [d]
    exact RqM.good (g.k (skip_ge _ _ _) (skip_le g.2.2.2.1))
  · unfold wp_Mod_sees j_Mod_sees_29
    refine s_qBlanks hB h (fun z hz => bn_f (by rw [hz.e]; exact d) (p0 (fun w => d w.1) z hz))
theorem isWd_le {k : Nat} {w : List Nat} (hk : k ≤ n) (h : isWd T n k w) : k + w.length ≤ n := by
  have := @wln_le T n k hk
  rw [h.1] at this
  exact this
theorem s_qWord (hB : BsM x T n F s) {post : Int32 → St → Prop} {W : Int64} {w : List Nat} (hg : goodW w) (hW : W = lN (bW w)) (h : RqM b n s x r y)
    (p1 : r.1 = -1 → isWd T n (skip T n r.2.1) w → ∀ z, RqM b n s x (-1, skip T n r.2.1 + w.length, r.2.2) z → post 1 z)
    (p0 : ¬ (r.1 = -1 ∧ isWd T n (skip T n r.2.1) w) → ∀ z, RqM b n s x (r.1, skip T n r.2.1, r.2.2) z → post 0 z) : wp_Mod_takesWord post W y := by
  obtain ⟨t1, t2, -⟩ := hB.fq h.fq
  by_cases d : r.1 = -1
  · have g := h.gd d
    have sg := skip_ge T n r.2.1
    refine s_takesWord t1 g.2.2.1 g.2.2.2.1 hg hW (fun a1 a2 => p1 d a2 _ (RqM.good (g.k (by omega) (isWd_le (skip_le g.2.2.2.1) a2)))) (fun a => p0 (fun z => a ⟨g.2.1, z.2⟩) _ ?_)
    rw [d]
    exact RqM.good (g.k (skip_ge _ _ _) (skip_le g.2.2.2.1))
  · unfold wp_Mod_takesWord
    refine s_qSees hB hg hW h (fun a => absurd a d) (fun a z hz => bn_t rfl (p0 a z hz))
/-- a step -/
theorem s_qAdd (hB : BsM x T n F s) {post : St → Prop} {q : Nat} {l : QSt} (hq : q < 2 ^ 31) (h : RqM b n s x r y) (p : ∀ z, RqM b n s x (qAdd q l r) z → post z) : wp_Mod_addStep post (nI q) l.1 l.2.1 l.2.2.1 l.2.2.2.1 l.2.2.2.2 y := by
  obtain ⟨t1, t2, t3, t4, t5, t6, t7⟩ := hB.fq h.fq
  have l79 : fN y 79 = 12 := t3 79
  have in2 : vp_in (nI (4 * s + 2)) 12 := vp_in_nI (by omega) (by decide)
  unfold wp_Mod_addStep
  rw [t6, q42, l79]
  refine ⟨in2, ?_⟩
  rw [rA_nI (by omega)]
  by_cases d : r.1 = -1
  · have g := h.gd d
    obtain ⟨a1, a2, a3, a4, ⟨b1, b2, b3, b4⟩, a6, a7, a8⟩ := g
    rw [b3.1]
    have hl := b3.2.1
    by_cases c : r.2.2.2.2.1.length = 64
    · refine bn_t (by rw [c]; rfl) (s_qFail hB hq h (fun z hz => ?_))
      unfold qEr at hz
      rw [if_pos d] at hz
      unfold j_Mod_addStep_23
      refine br_f (by rw [hz.e]; exact nI_nm1 hq) (p z ?_)
      unfold qAdd
      rw [if_neg (fun w => w d), if_pos c]
      exact hz
    · refine bn_f (fun z => c ?_) ?_
      · rw [show (64 : Int32) = nI 64 from rfl, nI_eq (by omega) (by decide)] at z
        exact z
      · unfold j_Mod_addStep_23
        refine br_t a2 ?_
        rw [t6, q42, l79]
        refine ⟨in2, ?_⟩
        rw [rA_nI (by omega), b3.1, q64]
        refine nm_e ?_
        have hk : 64 * s + r.2.2.2.2.1.length < 192 := by omega
        have ii : vp_in (nI (64 * s + r.2.2.2.2.1.length)) 192 := vp_in_nI hk (by decide)
        refine ⟨by rw [show fN y 84 = 192 from t3 84]; exact ii, nm_e ⟨by show vp_in _ (fN y 85); rw [show fN y 85 = 192 from t3 85]; exact ii, nm_e ⟨by show vp_in _ (fN y 86); rw [show fN y 86 = 192 from t3 86]; exact ii, nm_e ⟨by show vp_in _ (fN y 87); rw [show fN y 87 = 192 from t3 87]; exact ii, nm_e ⟨by show vp_in _ (fN y 88); rw [show fN y 88 = 192 from t3 88]; exact ii, nm_e ?_⟩⟩⟩⟩⟩
        show vp_in ((4 * fI y 0 118) + 2) (fN y 79) ∧ vp_in ((4 * fI y 0 118) + 2) (fN y 79) ∧ _
        rw [t6, q42, l79]
        refine ⟨in2, in2, nm_r (e' := setA (setA (setA (setA (setA (setA y 84 (nI (64 * s + r.2.2.2.2.1.length)) l.1) 85 (nI (64 * s + r.2.2.2.2.1.length)) l.2.1) 86 (nI (64 * s + r.2.2.2.2.1.length)) l.2.2.1) 87 (nI (64 * s + r.2.2.2.2.1.length)) l.2.2.2.1) 88 (nI (64 * s + r.2.2.2.2.1.length)) l.2.2.2.2) 79 (nI (4 * s + 2)) (nI (r.2.2.2.2.1.length + 1))) ?_ (p _ ?_)⟩
        · show setA _ 79 ((4 * fI y 0 118) + 2) (rA y 79 ((4 * fI y 0 118) + 2) + 1) = _
          rw [t6, q42, rA_nI (by omega), b3.1, nI_1]
        · unfold qAdd
          rw [if_neg (fun w => w d), if_neg c]
          have cl : (nI (64 * s + r.2.2.2.2.1.length)).toNatClampNeg = 64 * s + r.2.2.2.2.1.length := nI_clamp (by omega)
          have cl2 : (nI (4 * s + 2)).toNatClampNeg = 4 * s + 2 := nI_clamp (by omega)
          refine RqM.good ⟨?_, a2, a3, a4, ⟨?_, ?_, ?_, ?_⟩, a6, a7, a8⟩
          · have hA : ∀ a, 84 ≤ a → a ≤ 88 → qA b s a (64 * s + r.2.2.2.2.1.length) := fun a z w => Or.inr (Or.inr ⟨by omega, by omega, by
              have : wq a = 64 := by unfold wq; rw [if_neg (by omega), if_neg (by omega), if_neg (by omega)]
              rw [this]; omega⟩)
            exact (((((a1.trans (FqM.a (by omega) (hA 84 (by decide) (by decide)))).trans (FqM.a (by omega) (hA 85 (by decide) (by decide)))).trans (FqM.a (by omega) (hA 86 (by decide) (by decide)))).trans (FqM.a (by omega) (hA 87 (by decide) (by decide)))).trans (FqM.a (by omega) (hA 88 (by decide) (by decide)))).trans (FqM.a (by omega) (Or.inr (Or.inr ⟨by decide, by decide, by show 4 * s ≤ _; omega, by show _ < 4 * s + 4; omega⟩)))
          · exact b1.cg (c' := upd (fA y 79) (nI (4 * s + 2)).toNatClampNeg _) (by rw [cl2, upd_ne (by omega)])
          · exact b2.cg (c' := upd (fA y 79) (nI (4 * s + 2)).toNatClampNeg _) (by rw [cl2, upd_ne (by omega)])
          · refine b3.add (c' := upd (fA y 79) (nI (4 * s + 2)).toNatClampNeg (nI (r.2.2.2.2.1.length + 1))) c (by rw [cl2, upd_at]) ?_ ?_ ?_ ?_ ?_
            · show upd (fA y 84) (nI (64 * s + r.2.2.2.2.1.length)).toNatClampNeg l.1 = _; rw [cl]
            · show upd (fA y 85) (nI (64 * s + r.2.2.2.2.1.length)).toNatClampNeg l.2.1 = _; rw [cl]
            · show upd (fA y 86) (nI (64 * s + r.2.2.2.2.1.length)).toNatClampNeg l.2.2.1 = _; rw [cl]
            · show upd (fA y 87) (nI (64 * s + r.2.2.2.2.1.length)).toNatClampNeg l.2.2.2.1 = _; rw [cl]
            · show upd (fA y 88) (nI (64 * s + r.2.2.2.2.1.length)).toNatClampNeg l.2.2.2.2 = _; rw [cl]
          · exact b4.cg (c' := upd (fA y 79) (nI (4 * s + 2)).toNatClampNeg _) (by rw [cl2, upd_ne (by omega)])
  · have fin : ∀ z, RqM b n s x (qEr q r) z → j_Mod_addStep_23 post (nI q) l.1 l.2.1 l.2.2.1 l.2.2.2.1 l.2.2.2.2 z := by
      intro z hz
      unfold qEr at hz
      rw [if_neg d] at hz
      unfold j_Mod_addStep_23
      refine br_f (by rw [hz.e]; exact d) (p z ?_)
      unfold qAdd
      rw [if_pos d]
      exact hz
    refine ⟨fun _ => fin y ?_, fun _ => s_qFail hB hq h fin⟩
    unfold qEr
    rw [if_neg d]
    exact h
end
