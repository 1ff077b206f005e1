/-! the Opener looks at the pages of a chunk -/
def FrLC (x y : St) : Prop := Fg (fun a k => a = 104 ∧ (k = 1 ∨ k = 2 ∨ k = 3) ∨ a = 102 ∧ (k = 1 ∨ k = 3) ∨ a = 96 ∧ (9 ≤ k ∧ k ≤ 16) ∨ a = 97 ∧ (k = 3 ∨ k = 4)) no2 no2 (fun a => a = 82 ∨ a = 83 ∨ a = 84 ∨ 86 ≤ a ∧ a ≤ 91 ∨ a = 94 ∨ a = 98 ∨ a = 105) (fun a => a = 85 ∨ a = 92 ∨ a = 93 ∨ a = 95 ∨ 99 ≤ a ∧ a ≤ 101) x y ∧ ∀ i, i < 40000 → fA y 82 i = fA x 82 i
/-- what stays while a chunk is looked at -/
def FxC (x : St) (F : List SFd) (G : List Nat) (g rows : Nat) : Prop := RepC x 70 F ∧ (∀ h, h ≤ g → fA x 87 h = nI (smN (G.take h))) ∧ fI x 97 1 = nI rows ∧ fI x 97 2 = nI G.length
def ChP (x : St) (F : List SFd) (G : List Nat) (b dE : Nat) (CK : List (List PgW)) (X : List PgW) (g c : Nat) : Prop := VtC x F b dE (enA CK ++ ckC X) ∧ CsC x F G b dE CK ∧ fA x 88 CK.length = nI (tlN CK) ∧ CkC x F b dE (tlN CK) c (enA CK).length X ∧ StR x (ncol F) (smN (G.take g)) c (G.getD g 0) (enA CK).length (ckC X) ∧ fI x 96 10 = nI (tlN CK + 1 + X.length) ∧ fI x 96 12 = nI (nR (ckC X)) ∧ fI x 97 3 = nI (tlN CK - CK.length + X.length)
theorem pos_ne {G : List Nat} {N g c w j j' : Nat} (hc : c < N) (hw : w < g * N + c) (hj : j < G.getD (w / N) 0) (hg : g < G.length) : (smN (G.take (w / N)) + j) * N + w % N ≠ (smN (G.take g) + j') * N + c := by
  intro h
  have hN : 0 < N := by omega
  have d := Nat.div_add_mod w N
  have m := Nat.mod_lt w hN
  by_cases e : w % N = c
  · have lt : w / N < g := by
      rcases Nat.lt_or_ge (w / N) g with z | z
      · exact z
      · have := Nat.mul_le_mul_left N z
        rw [Nat.mul_comm N g] at this
        omega
    have s1 := smN_take (G := G) (g := w / N) (by omega)
    have s2 : smN (G.take (w / N + 1)) ≤ smN (G.take g) := by
      have := smN_le (G := G.take g) (g := w / N + 1)
      rw [List.take_take, Nat.min_eq_left (by omega)] at this
      exact this
    have : (smN (G.take (w / N)) + j + 1) * N ≤ (smN (G.take g) + j') * N := Nat.mul_le_mul_right _ (by omega)
    rw [Nat.succ_mul] at this
    omega
  · have a := congrArg (· % N) h
    simp only [Nat.add_mod, Nat.mul_mod_left, Nat.zero_add, Nat.mod_mod] at a
    rw [Nat.mod_eq_of_lt hc] at a
    exact e a
section
variable {x y z : St} {T : Nat → Nat} {n st p b dE : Nat} {F : List SFd} {G : List Nat}
theorem FrLC.refl (x : St) : FrLC x x := ⟨Fg.refl x, fun _ _ => rfl⟩
theorem FrLC.trans (h : FrLC x y) (k : FrLC y z) : FrLC x z := ⟨Fg.trans h.1 k.1, fun i hi => (k.2 i hi).trans (h.2 i hi)⟩
theorem FrLC.of {I J R : Nat → Nat → Prop} {A L : Nat → Prop} (f : Fg I J R A L x y) (h1 : ∀ o k, I o k → o = 104 ∧ (k = 1 ∨ k = 2 ∨ k = 3) ∨ o = 102 ∧ (k = 1 ∨ k = 3) ∨ o = 96 ∧ (9 ≤ k ∧ k ≤ 16) ∨ o = 97 ∧ (k = 3 ∨ k = 4)) (h2 : ∀ o k, ¬ J o k) (h3 : ∀ o k, ¬ R o k) (h4 : ∀ a, A a → a = 83 ∨ a = 84 ∨ 86 ≤ a ∧ a ≤ 91 ∨ a = 94 ∨ a = 98 ∨ a = 105) (h5 : ∀ a, L a → a = 85 ∨ a = 92 ∨ a = 93 ∨ a = 95 ∨ 99 ≤ a ∧ a ≤ 101) : FrLC x y := ⟨f.mono h1 (fun _ _ z => h2 _ _ z) (fun _ _ z => h3 _ _ z) (fun a z => by have := h4 a z; omega) h5, fun i _ => by rw [f.aa (fun z => by have := h4 82 z; omega)]⟩
theorem FrLC.pc (f : FrPC b x y) (hb : 40000 ≤ b) : FrLC x y := ⟨f.1.mono (fun o k z => by omega) (fun _ _ z => z) (fun _ _ z => z) (fun a z => by omega) (fun a z => by omega), fun i hi => f.2 i (by omega)⟩
theorem FrLC.fi (f : FrLC x y) (h : FiC x T n) : FiC y T n := ⟨fun r hr => (f.1.len r).trans (h.1 r hr), h.2.1, h.2.2.1, fun i hi => (f.2 i (by have := h.2.1; omega)).trans (h.2.2.2 i hi)⟩
theorem FrLC.rep (f : FrLC x y) (h : RepC x 70 F) : RepC y 70 F := h.cg7 (f.1.ii (by decide)) (f.1.ii (by decide)) (fun r h1 h2 => f.1.aa (by omega))
theorem k_pgs {post : Int32 → St → Prop} {rec60 : Nat → Int32 → St → Prop} {rec102 : Nat → Int32 → Int32 → St → Prop} {g c p0 st0 M rows : Nat} {CK : List (List PgW)} {t : ChT} (S : Sr 104 x T n p0 st0) (hw : WfS F) (hc : c < ncol F) (hg : g < G.length) (hg2 : g < 500) (hCK : CK.length = g * ncol F + c) (H : ChP x F G b dE CK [] g c) (X1 : FxC x F G (g + 1) rows) (hsm : smN G ≤ 2000) (h11 : fI x 96 11 = nI (p0 + t.1)) (hpb : p0 + t.1 + 4 * (CK.length + 1) ≤ 39988) (hpn : p0 + t.1 ≤ n) (hp4 : 10 * (tlN CK - CK.length) + 4 ≤ p0) (hpc : 2 * CK.length ≤ tlN CK) (hM : M = if t.2.1 ≤ 40000 then t.2.1 else 40001)
    (pe : ∀ e k y l6, pgsO T F c (p0 + t.1) t.2.1 [] (enA CK) p0 = .error (e, k) → FrLC x y → FlC 104 y e → fA y 98 0 = nI g → fA y 98 1 = nI c → fA y 98 2 = nI k → j_Opn_lookAtChunks_236 post rec60 rec102 96 (nI g) (nI c) (nI (tlN CK)) (lN M) l6 y)
    (pk : ∀ X q st' y b' dE' l6, pgsO T F c (p0 + t.1) t.2.1 [] (enA CK) p0 = .ok (X, q) → FrLC x y → (∀ a k, a = 102 → fI y a k = fI x a k) → fL y 99 = fL x 99 → (∀ i, i < b → fA y 82 i = fA x 82 i) → fA y 87 = fA x 87 → Sr 104 y T n q st' → q ≤ p0 + t.1 → p0 + 10 * X.length ≤ q → ChP y F G b' dE' CK X g c → b ≤ b' → fI y 96 11 = nI (p0 + t.1) → j_Opn_lookAtChunks_236 post rec60 rec102 96 (nI g) (nI c) (nI (tlN CK)) (lN M) l6 y) : ∃ nn, wl_Opn_lookAtChunks_182 post rec60 rec102 nn 96 (nI g) (nI c) (nI (tlN CK)) (lN M) 0 x := by
  obtain ⟨xr, x87, x971, x972⟩ := X1
  have tg := tlN_ge CK
  have sg := smN_take (G := G) (g := g) hg
  have sle := smN_le (G := G) (g := g + 1)
  have hM2 : M ≤ 40001 := by rw [hM]; split <;> omega
  refine lp_Opn_lookAtChunks_182 (fun a0 a1 a2 a3 a4 a5 y => 96 = a0 ∧ nI g = a1 ∧ nI c = a2 ∧ nI (tlN CK) = a3 ∧ lN M = a4 ∧ FrLC x y ∧ ∃ k, nI k = a5 ∧ k ≤ 5000 ∧ ((∃ e kk, FlC 104 y e ∧ pgsO T F c (p0 + t.1) t.2.1 [] (enA CK) p0 = .error (e, kk) ∧ fA y 98 0 = nI g ∧ fA y 98 1 = nI c ∧ fA y 98 2 = nI kk) ∨ ∃ X pp pst b' dE', X.length = k ∧ k ≤ M ∧ Sr 104 y T n pp pst ∧ pp ≤ p0 + t.1 ∧ p0 + 10 * k ≤ pp ∧ ChP y F G b' dE' CK X g c ∧ b ≤ b' ∧ (∀ a k, a = 102 → fI y a k = fI x a k) ∧ fL y 99 = fL x 99 ∧ (∀ i, i < b → fA y 82 i = fA x 82 i) ∧ fA y 87 = fA x 87 ∧ fI y 96 11 = nI (p0 + t.1) ∧ pgsO T F c (p0 + t.1) t.2.1 [] (enA CK) p0 = pgsO T F c (p0 + t.1) (t.2.1 - k) X (enA CK ++ ckC X) pp)) (fun _ _ _ _ _ a5 _ => 6000 - a5.toNatClampNeg) ?_ _ _ _ _ _ _ _ ⟨rfl, rfl, rfl, rfl, rfl, FrLC.refl x, 0, rfl, by decide, Or.inr ⟨[], p0, st0, b, dE, rfl, Nat.zero_le _, S, by omega, by omega, H, Nat.le_refl _, fun _ _ _ => rfl, rfl, fun _ _ => rfl, rfl, h11, by rw [show ckC [] = [] from rfl, List.append_nil]; rfl⟩⟩
  rintro Q a0 a1 a2 a3 a4 a5 y ⟨rfl, rfl, rfl, rfl, rfl, y1, k, rfl, k1, y2⟩ ih
  unfold j_Opn_lookAtChunks_182
  rw [show stC 96 2 = 104 from rfl]
  rcases y2 with ⟨e, kk, f1, f2, f3, f4, f5⟩ | ⟨X, pp, pst, b', dE', q0, q1, Sy, q2, q3, Hy, q4, q5, q6, q7, q8, q9, q10⟩
  · exact ⟨fun _ => pe e kk y _ f2 y1 f1 f3 f4 f5, fun _ => ⟨fun _ => pe e kk y _ f2 y1 f1 f3 f4 f5, fun w => absurd w f1.ne⟩⟩
  have hSy := Sy.le
  rw [show (nI k).toInt64 = lN k from nI_l (by omega), lg_cmp_ge, lN_le2 (by omega) (by omega)]
  by_cases ck : k < M
  rotate_left
  · have ek : k = t.2.1 := by
      rw [hM] at ck q1
      by_cases c4 : t.2.1 ≤ 40000
      · rw [if_pos c4] at ck q1; omega
      · rw [if_neg c4] at ck; omega
    refine br_t (by omega) (pk X pp pst y b' dE' _ ?_ y1 q5 q6 q7 q8 Sy q2 (by omega) Hy q4 q9)
    rw [q10, ek, Nat.sub_self]
    rfl
  refine br_f (by omega) (bn_t Sy.h0 ?_)
  have kt : k < t.2.1 := by
    rw [hM] at ck
    by_cases c4 : t.2.1 ≤ 40000
    · rw [if_pos c4] at ck; exact ck
    · omega
  obtain ⟨d, hd⟩ : ∃ d, t.2.1 - k = d + 1 := ⟨t.2.1 - k - 1, by omega⟩
  rw [hd] at q10
  have ep : pgsO T F c (p0 + t.1) (d + 1) X (enA CK ++ ckC X) pp = (match pgO T F c (enA CK ++ ckC X).length (tx (enA CK ++ ckC X)) (p0 + t.1) pp with
    | .error e => .error (e, X.length)
    | .ok (g, q) => pgsO T F c (p0 + t.1) d (X ++ [g]) (enA CK ++ ckC X ++ g.1) q) := rfl
  refine k_lookAt Sy.1.1 (fun z z1 z98a z98b z98c => nm_e ?_)
  rw [show fI z 96 11 = nI (p0 + t.1) from (z1.ii id).trans q9]
  have Sz : Sr 104 (setI z 104 2 (nI (p0 + t.1))) T n pp (p0 + t.1) := ⟨⟨fun r hr => (z1.len r).trans (Sy.1.1 r hr), Sy.1.2.1, Sy.1.2.2.1, fun i hi => by show fA z 82 i = _; rw [z1.aa (by decide)]; exact Sy.1.2.2.2 i hi⟩, (gI_ne (by decide)).trans ((z1.ii id).trans Sy.h0), (gI_ne (by decide)).trans ((z1.ii id).trans Sy.hp), gI_at, q2, hpn⟩
  have fz : Fg (fun a k => a = 104 ∧ k = 2) no2 no2 (fun a => a = 98) no1 y (setI z 104 2 (nI (p0 + t.1))) := Fg.trans (z1.mono (fun _ _ w => w.elim) (fun _ _ w => w) (fun _ _ w => w) (fun _ w => w) (fun _ w => w)) (Fg.i ⟨rfl, rfl⟩)
  have e98a : fA (setI z 104 2 (nI (p0 + t.1))) 98 0 = nI g := z98a
  have e98b : fA (setI z 104 2 (nI (p0 + t.1))) 98 1 = nI c := z98b
  have e98c : fA (setI z 104 2 (nI (p0 + t.1))) 98 2 = nI k := z98c
  generalize setI z 104 2 (nI (p0 + t.1)) = u at *
  obtain ⟨h1, h2, h3, h4, h5, h6, h7, h8⟩ := Hy
  obtain ⟨v4, vE, v14, vb1, vb2, v16, vtx, v13, vd, vEn⟩ := h1
  have fs : tlN CK + 1 + X.length < 5999 := by omega
  refine k_newT (t := tlN CK + 1 + X.length) (E := (enA CK ++ ckC X).length) Sz ((fz.ii (by decide)).trans h6) fs ((fz.ii (by decide)).trans v4) (fun w w1 w2 w89 w90 w91 w94 => ?_)
  have Sw : Sr 104 w T n pp (p0 + t.1) := Sz.cg w1 (by decide) (by decide) (by decide) (by decide)
  -- from y to w
  have yA : ∀ r, ¬ (r = 89 ∨ r = 90 ∨ r = 91 ∨ r = 94) → r ≠ 98 → fA w r = fA y r := fun r hr hr2 => (w1.aa hr).trans (fz.aa hr2)
  have yL : ∀ r, fL w r = fL y r := fun r => (w1.ll id).trans (fz.ll id)
  have yI : ∀ a k, ¬ (a = 96 ∧ k = 10) → ¬ (a = 104 ∧ k = 2) → fI w a k = fI y a k := fun a k h1 h2 => (w1.ii h1).trans (fz.ii h2)
  have uA : ∀ r, r ≠ 98 → fA u r = fA y r := fun r hr => fz.aa hr
  have yt : ∀ s, s < tlN CK + 1 + X.length → fA w 89 s = fA y 89 s ∧ fA w 90 s = fA y 90 s ∧ fA w 91 s = fA y 91 s ∧ fA w 94 s = fA y 94 s ∧ fL w 92 s = fL y 92 s ∧ fL w 93 s = fL y 93 s := fun s hs => ⟨by rw [w89, upd_ne (by omega), uA 89 (by decide)], by rw [w90, upd_ne (by omega), uA 90 (by decide)], by rw [w91, upd_ne (by omega), uA 91 (by decide)], by rw [w94, upd_ne (by omega), uA 94 (by decide)], by rw [yL], by rw [yL]⟩
  have w82 : fA w 82 = fA y 82 := yA 82 (by decide) (by decide)
  have Cw : CkC w F b' dE' (tlN CK) c (enA CK).length X := h4.up (fun s _ s2 => yt s (by omega)) (fun i _ => by rw [yL]) (Nat.le_refl _) (fun i _ => by rw [w82]) (Nat.le_refl _)
  have Sw2 : StR w (ncol F) (smN (G.take g)) c (G.getD g 0) (enA CK).length (ckC X) := h5.up (fun j _ => by rw [yA 86 (by decide) (by decide)])
  have Csw : CsC w F G b' dE' CK := h2.up (fun s hs => yt s (by omega)) (fun i _ => by rw [yA 88 (by decide) (by decide)]) (fun i _ j _ => by rw [yA 86 (by decide) (by decide)]) (fun i _ => by rw [yL]) (Nat.le_refl _) (fun i _ => by rw [w82]) (Nat.le_refl _)
  have Vw : VtC w F b' dE' (enA CK ++ ckC X) := ⟨(yI _ _ (by decide) (by decide)).trans v4, vE, (yI _ _ (by decide) (by decide)).trans v14, vb1, vb2, (yI _ _ (by decide) (by decide)).trans v16, vtx, (yI _ _ (by decide) (by decide)).trans v13, vd, fun i hi => (vEn i hi).up (by rw [yA 83 (by decide) (by decide)]) (by rw [yA 84 (by decide) (by decide)]) (by rw [yL]) (fun i _ => by rw [w82]) (Nat.le_refl _)⟩
  have fw : FrLC x w := y1.trans (FrLC.trans (FrLC.of fz (fun o k z => Or.inl ⟨z.1, by omega⟩) (fun _ _ z => z) (fun _ _ z => z) (fun a z => by have : a = 98 := z; omega) (fun a z => z.elim)) (FrLC.of w1 (fun o k z => by omega) (fun _ _ z => z) (fun _ _ z => z) (fun a z => by omega) (fun a z => z.elim)))
  have w87 : fA w 87 = fA x 87 := (yA 87 (by decide) (by decide)).trans q8
  have le : (enA CK ++ ckC X).length - (ckC X).length = (enA CK).length := by rw [List.length_append]; omega
  refine k_lookP (b := b') (ct := tlN CK) (pg := tlN CK + 1 + X.length) (g := g) (G0 := smN (G.take g)) (rh := G.getD g 0) (pgs := tlN CK - CK.length + X.length) (dE := dE') (E := enA CK ++ ckC X) (C := ckC X) Sw hw (fw.rep xr) hc Vw (by omega) (by omega) (by omega) (by rw [le]; exact Cw.1) (by rw [List.length_append]; omega) (by rw [w89, upd_at]) (by rw [w94, upd_at]) ((yI _ _ (by decide) (by decide)).trans h7) ((congrFun (w1.aa (by decide)) 0).trans e98a) hg2 (by rw [w87]; exact x87 g (by omega)) (by rw [w87, x87 (g + 1) (Nat.le_refl _), sg]) (by omega) ((yI _ _ (by decide) (by decide)).trans h8) (fun e v v1 v2 v3 => ?_) (fun L W q v bb dd v1 v2 Sv kp v3 => ?_)
  · rw [nI_1]
    refine ih _ _ _ _ _ _ _ ⟨rfl, rfl, rfl, rfl, rfl, fw.trans (FrLC.pc v2 vb1), k + 1, rfl, by omega, Or.inl ⟨e, X.length, v3, ?_, ?_, ?_, ?_⟩⟩ (by rw [nI_clamp (by omega), nI_clamp (by omega)]; omega)
    · rw [q10, ep, v1]
    · rw [v2.1.aa (by decide), w1.aa (by decide)]; exact e98a
    · rw [v2.1.aa (by decide), w1.aa (by decide)]; exact e98b
    · rw [v2.1.aa (by decide), w1.aa (by decide), q0]; exact e98c
  · obtain ⟨o1, o2, -⟩ := pgO_ok hw hc S.t v1
    rw [nI_1]
    have kp' := kp
    obtain ⟨r1, r2, r3, r4, r5, r6, r7, r8, r9, r10, r11, r12⟩ := kp
    rw [List.append_assoc] at r1
    have v89 : fA v 89 = fA w 89 := v2.1.aa (by decide)
    refine ih _ _ _ _ _ _ _ ⟨rfl, rfl, rfl, rfl, rfl, fw.trans (FrLC.pc v2 vb1), k + 1, rfl, by omega, Or.inr ⟨X ++ [(L, W)], q, q, bb, dd, by rw [List.length_append, q0]; rfl, by omega, Sv, o2, by omega, ⟨by rw [ckC_add]; exact r1, ?_, ?_, Cw.add kp' v89 v2.2, ?_, ?_, by rw [ckC_add]; exact r10, ?_⟩, by omega, fun a k ha => ?_, ?_, fun i hi => ?_, ?_, ?_, ?_⟩⟩ (by rw [nI_clamp (by omega), nI_clamp (by omega)]; omega)
    · refine Csw.up (fun s hs => ?_) (fun i hi => by rw [v2.1.aa (by decide)]) (fun i hi j hj => r12 _ (fun j' _ _ => pos_ne hc (by omega) hj hg)) r9 r3 v2.2 r2
      obtain ⟨a1, a2, a3, a4⟩ := r7 s (by omega) (by omega)
      exact ⟨by rw [v89], a1, a2, r8 s (by omega), a3, a4⟩
    · rw [v2.1.aa (by decide), yA 88 (by decide) (by decide)]; exact h3
    · rw [ckC_add]; exact Sw2.add kp' (by omega)
    · rw [v2.1.ii (by decide), w2, List.length_append]; rfl
    · rw [v3, List.length_append]; rfl
    · subst ha
      exact (v2.1.ii (by omega)).trans ((yI _ _ (by omega) (by omega)).trans (q5 102 k rfl))
    · rw [v2.1.ll (by decide), yL, q6]
    · rw [v2.2 i (by omega), w82]; exact q7 i hi
    · rw [v2.1.aa (by decide), w87]
    · exact (v2.1.ii (by decide)).trans ((yI _ _ (by decide) (by decide)).trans q9)
    · rw [q10, ep, v1, ckC_add, ← List.append_assoc, show t.2.1 - (k + 1) = d by omega]
end
