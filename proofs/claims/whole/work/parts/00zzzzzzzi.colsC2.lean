/-! the Opener looks at the chunks of a group -/
def BeS (x : St) (F : List SFd) (G : List Nat) (b dE : Nat) (CK : List (List PgW)) : Prop := VtC x F b dE (enA CK) ∧ CsC x F G b dE CK ∧ fI x 96 10 = nI (tlN CK) ∧ fI x 97 3 = nI (tlN CK - CK.length)
theorem pgsO_all {T : Nat → Nat} {F : List SFd} {c st : Nat} (hw : WfS F) (hc : c < ncol F) (hT : ∀ i, T i < 256) : ∀ d X E p X' q, pgsO T F c st d X E p = .ok (X', q) → (∀ e, e ∈ ckC X → okE F e ∧ e.1 = c) → (∀ e, e ∈ ckC X' → okE F e ∧ e.1 = c) ∧ X'.length = X.length + d := by
  intro d
  induction d with
  | zero =>
    intro X E p X' q h hX
    simp only [pgsO, Except.ok.injEq, Prod.mk.injEq] at h
    rw [← h.1]
    exact ⟨hX, rfl⟩
  | succ d ih =>
    intro X E p X' q h hX
    simp only [pgsO] at h
    split at h
    · cases h
    rename_i g q1 e1
    obtain ⟨L, W⟩ := g
    have o := pgO_ok hw hc hT e1
    obtain ⟨h1, h2⟩ := ih _ _ _ _ _ h (fun e he => by
      rw [ckC_add] at he
      rcases List.mem_append.mp he with z | z
      · exact hX e z
      · exact o.2.2.2.2.2.2.1 e z)
    refine ⟨h1, ?_⟩
    rw [List.length_append] at h2
    have h2 : X'.length = X.length + 1 + d := h2
    omega
theorem enA_split {CK : List (List PgW)} {w : Nat} (h : w < CK.length) : enA CK = enA (CK.take w) ++ ckC (CK.getD w []) ++ enA (CK.drop (w + 1)) := by
  have e : CK = CK.take w ++ [CK.getD w []] ++ CK.drop (w + 1) := by rw [← tk_sn h, List.take_append_drop]
  conv => lhs; rw [e]
  unfold enA
  rw [List.map_append, List.flatten_append, List.map_append, List.flatten_append]
  show _ ++ (ckC (CK.getD w []) ++ []) ++ _ = _
  rw [List.append_nil]
section
variable {x y z : St} {T : Nat → Nat} {n p b dE : Nat} {F : List SFd} {G : List Nat} {K : List ChT}
theorem TdC.up {b c ty : Nat} {t : ChT} (h : TdC x b ty t) (e : fL y 99 = fL x 99) (e2 : ∀ i, i < b → fA y 82 i = fA x 82 i) (hb : b ≤ c) : TdC y c ty t := by
  obtain ⟨h0, h1, h2, h3, h4, h5, h6⟩ := h
  refine ⟨by rw [e]; exact h0, by rw [e]; exact h1, by rw [e]; exact h2, by rw [e]; exact h3, h4, h5, fun z => ?_⟩
  obtain ⟨a, b⟩ := h6 z
  rw [e]
  exact ⟨a.up e2 hb, b.up e2 hb⟩
/-- a chunk that was looked at is kept -/
theorem ChP.be {CK : List (List PgW)} {X : List PgW} {g c : Nat} (h : ChP x F G b dE CK X g c) (hc : c < ncol F) (hCK : CK.length = g * ncol F + c) : BeS x F G b dE (CK ++ [X]) := by
  obtain ⟨h1, h2, h3, h4, h5, h6, -, h8⟩ := h
  have hN : 0 < ncol F := by omega
  have tg := tlN_ge CK
  refine ⟨by rw [enA_add]; exact h1, fun w hw => ?_, by rw [tlN_add, h6]; congr 1; omega, by rw [tlN_add, h8, List.length_append]; congr 1; show _ = _ - (CK.length + 1); omega⟩
  rw [List.length_append] at hw
  have hw : w < CK.length + 1 := hw
  by_cases e : w = CK.length
  · subst e
    rw [List.take_append_of_le_length (Nat.le_refl _), List.take_length, getD_n]
    have e1 : CK.length / ncol F = g := by
      rw [hCK, Nat.mul_comm, Nat.mul_add_div hN, Nat.div_eq_of_lt hc, Nat.add_zero]
    have e2 : CK.length % ncol F = c := by
      rw [hCK, Nat.mul_comm, Nat.mul_add_mod, Nat.mod_eq_of_lt hc]
    rw [e1, e2]
    exact ⟨h3, h4, h5⟩
  · rw [List.take_append_of_le_length (by omega), getD_l (by omega)]
    exact h2 w (by omega)
theorem k_colsO {post : Int32 → St → Prop} {rec60 : Nat → Int32 → St → Prop} {g rows p0 st0 fp0 q3 qg : Nat} {CK0 : List (List PgW)} {G' : List Nat} {K0 K1 : List ChT} (S : Sr 104 x T n p0 st0) (S2 : Sr 102 x T n fp0 (n - 12)) (hw : WfS F) (hg : g < G.length) (hg2 : g < 500) (hG' : G'.length = g + 1) (hN : 0 < ncol F) (hCK0 : CK0.length = g * ncol F) (hK0 : K0.length = g * ncol F) (htd : tdsO T F (n - 12) (ncol F) 0 K0 fp0 = .ok (K1, qg)) (hgp : gpsO T F (n - 12) (G.length - (g + 1)) G' K1 qg = .ok ((G, K), q3)) (hKb : 4 + bsm K + 4 * K.length ≤ n - 12) (H : BeS x F G b dE CK0) (X1 : FxC x F G (g + 1) rows) (hsm : smN G ≤ 2000) (hp : p0 = 4 + bsm (K.take CK0.length)) (hp4 : 10 * (tlN CK0 - CK0.length) + 4 ≤ p0) (hpc : 2 * CK0.length ≤ tlN CK0) (hok : ∀ e, e ∈ enA CK0 → okE F e)
    (pe : ∀ z y, cksO T F K (G.getD g 0) g (ncol F) 0 CK0 [] p0 = .error z → FrLC x y → FlC 104 y z.1 → fA y 98 0 = z.2.1 → fA y 98 1 = z.2.2.1 → fA y 98 2 = z.2.2.2 → post (nI z.1) y)
    (pk : ∀ CK q y b' dE' st', cksO T F K (G.getD g 0) g (ncol F) 0 CK0 [] p0 = .ok (CK, q) → FrLC x y → Sr 104 y T n q st' → Sr 102 y T n qg (n - 12) → CK.length = (g + 1) * ncol F → BeS y F G b' dE' CK → FxC y F G (g + 1) rows → q = 4 + bsm (K.take CK.length) → 10 * (tlN CK - CK.length) + 4 ≤ q → 2 * CK.length ≤ tlN CK → (∀ e, e ∈ enA CK → okE F e) → rec60 96 (nI (g + 1)) y) : ∃ nn, wl_Opn_lookAtChunks_102 post rec60 nn 96 (nI g) 0 x := by
  have hS := S.le
  have hT := S.t
  have h128 := hw.1
  have h64 := hw.2.1
  obtain ⟨gp1, gp2, gp3, gp4, gp5, gp6⟩ := gpsO_pre hT _ _ _ _ _ _ _ hgp (by
    obtain ⟨a, b, -⟩ := tdsO_ok hT _ _ _ _ _ _ htd S2.le.1
    exact b)
  obtain ⟨td1, td2⟩ := tdsO_pre _ _ _ _ _ _ htd
  have K1l : K1.length = (g + 1) * ncol F := by rw [td2, hK0, Nat.succ_mul]
  have K1le : K1.length ≤ K.length := by omega
  refine lp_Opn_lookAtChunks_102 (fun a0 a1 a2 y => 96 = a0 ∧ nI g = a1 ∧ FrLC x y ∧ ∃ c CK A K' fp pp st' b' dE', nI c = a2 ∧ c ≤ ncol F ∧ CK.length = g * ncol F + c ∧ K'.length = g * ncol F + c ∧ (1 ≤ c → A = ckC (CK.getD (CK.length - 1) [])) ∧ Sr 104 y T n pp st' ∧ Sr 102 y T n fp (n - 12) ∧ tdsO T F (n - 12) (ncol F - c) c K' fp = .ok (K1, qg) ∧ BeS y F G b' dE' CK ∧ FxC y F G (g + 1) rows ∧ pp = 4 + bsm (K.take CK.length) ∧ 10 * (tlN CK - CK.length) + 4 ≤ pp ∧ 2 * CK.length ≤ tlN CK ∧ (∀ e, e ∈ enA CK → okE F e) ∧ cksO T F K (G.getD g 0) g (ncol F) 0 CK0 [] p0 = cksO T F K (G.getD g 0) g (ncol F - c) c CK A pp) (fun _ _ a2 _ => ncol F - a2.toNatClampNeg) ?_ _ _ _ _ ⟨rfl, rfl, FrLC.refl x, 0, CK0, [], K0, fp0, p0, st0, b, dE, rfl, Nat.zero_le _, hCK0, hK0, fun z => absurd z (by decide), S, S2, htd, H, X1, hp, hp4, hpc, hok, rfl⟩
  rintro Q a0 a1 a2 y ⟨rfl, rfl, y1, c, CK, A, K', fp, pp, st', b', dE', rfl, c1, lCK, lK, hA, Sy, Sy2, yt, By, Xy, yp, y4, yc, yok, yk⟩ ih
  obtain ⟨xr, x87, x971, x972⟩ := Xy
  unfold j_Opn_lookAtChunks_102
  rw [show stC (stC 96 0) 5 = 70 from rfl, show stC 70 10 = 79 from rfl, show stC 70 3 = 72 from rfl, xr.2.1]
  by_cases cc : c < ncol F
  rotate_left
  · have ec : c = ncol F := by omega
    subst ec
    refine br_t (by (first | omega | (simp (disch := omega) only [Int32.le_iff_toInt_le, Int32.lt_iff_toInt_lt, z_eq, z_in, nI_toInt, z_cl, z_m1, z_sg, z_255, Int32.reduceToInt] <;> omega) | (simp only [Int32.le_iff_toInt_le, Int32.lt_iff_toInt_lt, z_eq, z_in, z_add, z_sub, z_mul, z_neg, z_nI, z_cl, z_sg, z_255, z_lit, Int32.reduceToInt] <;> omega))) ?_
    rw [nI_1]
    rw [Nat.sub_self] at yk yt
    have yt' : (.ok (K', fp) : Rd (List ChT)) = .ok (K1, qg) := yt
    simp only [Except.ok.injEq, Prod.mk.injEq] at yt'
    rw [yt'.2] at Sy2
    exact pk CK pp y b' dE' st' yk y1 Sy Sy2 (by rw [lCK, Nat.succ_mul]) By ⟨xr, x87, x971, x972⟩ yp y4 yc yok
  obtain ⟨l1, l2, l3⟩ := lfC_ok cc
  obtain ⟨ty4, -⟩ := ty_lt hw cc
  have Ly := Sy.1.1
  refine br_f (by (first | omega | (simp (disch := omega) only [Int32.le_iff_toInt_le, Int32.lt_iff_toInt_lt, z_eq, z_in, nI_toInt, z_cl, z_m1, z_sg, z_255, Int32.reduceToInt] <;> omega) | (simp only [Int32.le_iff_toInt_le, Int32.lt_iff_toInt_lt, z_eq, z_in, z_add, z_sub, z_mul, z_neg, z_nI, z_cl, z_sg, z_255, z_lit, Int32.reduceToInt] <;> omega))) ?_
  rw [rA_nI (by omega : c < 2 ^ 31), col79 xr cc, rA_nI (by omega : lfC F c < 2 ^ 31), col72 hw xr cc, show fN y 79 = 64 from Ly 79 (by decide), show fN y 72 = 128 from Ly 72 (by decide)]
  refine ⟨vp_in_nI (by omega) (by decide), vp_in_nI (by omega) (by decide), ?_⟩
  obtain ⟨d, hd⟩ : ∃ d, ncol F - c = d + 1 := ⟨ncol F - c - 1, by omega⟩
  rw [hd] at yt yk
  have yt2 := yt
  simp only [tdsO] at yt2
  refine k_told (b := 40000) Sy2 ty4 (by have := Sy.1.2.1; omega) (fun e z z1 z2 z3 => ?_) (fun t q z z1 z2 Sz tdz => ?_)
  · rw [z1] at yt2; cases yt2
  rw [z1] at yt2
  simp only at yt2
  obtain ⟨tdok1, tdok2, tdok3, tdok4, tdok5, -⟩ := tdR_ok hT z1
  -- the word of this chunk
  have wK : CK.length < K.length := by
    rw [Nat.succ_mul] at K1l
    omega
  have et : K.getD CK.length t0 = t := by
    obtain ⟨a1, a2⟩ := tdsO_pre _ _ _ _ _ _ yt2
    have e : K.take (K' ++ [t]).length = K' ++ [t] := by
      have := congrArg (List.take (K' ++ [t]).length) gp3
      rw [List.take_take, Nat.min_eq_left (by omega), a1] at this
      exact this
    have := pre_at (d := t0) e
    rw [lK, ← lCK] at this
    exact this
  have bt := bsm_take (K := K) wK
  have bl := bsm_le (K := K) (w := CK.length + 1)
  rw [et] at bt
  have hn := S.1.2.1
  have t40 : t.1 ≤ 40000 := by
    rcases Nat.lt_or_ge 40000 t.1 with z | z
    · have : clp t.1 = 80000 := by unfold clp; rw [if_neg (by omega)]
      omega
    · exact z
  have cl : clp t.1 = t.1 := by unfold clp; rw [if_pos t40]
  rw [cl] at bt
  have fzL : FrLC y z := FrLC.of z2 (fun o k w => by omega) (fun _ _ w => w) (fun _ _ w => w) (fun a w => w.elim) (fun a w => by have : a = 99 := w; omega)
  obtain ⟨v1, v2, v3, v5⟩ := By
  have tg := tlN_ge CK
  have Vz : VtC z F b' dE' (enA CK) := by
    obtain ⟨w4, wE, w14, wb1, wb2, w16, wtx, w13, wd, wEn⟩ := v1
    exact ⟨(z2.ii (by decide)).trans w4, wE, (z2.ii (by decide)).trans w14, wb1, wb2, (z2.ii (by decide)).trans w16, wtx, (z2.ii (by decide)).trans w13, wd, fun i hi => (wEn i hi).up (by rw [z2.aa id]) (by rw [z2.aa id]) (by rw [z2.ll (by decide)]) (fun i _ => by rw [z2.aa id]) (Nat.le_refl _)⟩
  have Sz4 : Sr 104 z T n pp st' := Sy.cg z2 id (by decide) (by decide) (by decide)
  have gN : g * ncol F + c < 6000 := by omega
  refine k_begC (F := F) (t := tlN CK) (E := (enA CK).length) (tb := t.1) Sz4 ((z2.ii (by decide)).trans v3) (by omega) Vz.1 ((z2.ii (by decide)).trans xr.2.1) h64 gN hg2 tdz.1 (fun u u1 u10 u89 u90 u91 u94 u88 u11 u12 => ?_)
  have uL : ∀ r, fL u r = fL z r := fun r => u1.ll id
  have Lu : LC u := fun r hr => (u1.len r).trans (Sz4.1.1 r hr)
  have Su4 : Sr 104 u T n pp st' := Sz4.cg u1 (by decide) (by decide) (by decide) (by decide)
  have Su2 : Sr 102 u T n q (n - 12) := Sz.cg u1 (by decide) (by decide) (by decide) (by decide)
  have fu : FrLC y u := fzL.trans (FrLC.of u1 (fun o k w => by omega) (fun _ _ w => w) (fun _ _ w => w) (fun a w => by omega) (fun a w => w.elim))
  have u82 : fA u 82 = fA y 82 := (u1.aa (by decide)).trans (z2.aa id)
  have ut : ∀ s, s < tlN CK → fA u 89 s = fA y 89 s ∧ fA u 90 s = fA y 90 s ∧ fA u 91 s = fA y 91 s ∧ fA u 94 s = fA y 94 s ∧ fL u 92 s = fL y 92 s ∧ fL u 93 s = fL y 93 s := fun s hs => ⟨by rw [u89, upd_ne (by omega), z2.aa id], by rw [u90, upd_ne (by omega), z2.aa id], by rw [u91, upd_ne (by omega), z2.aa id], by rw [u94, upd_ne (by omega), z2.aa id], by rw [uL, z2.ll (by decide)], by rw [uL, z2.ll (by decide)]⟩
  have Vu : VtC u F b' dE' (enA CK ++ ckC []) := by
    rw [show ckC [] = [] from rfl, List.append_nil]
    obtain ⟨w4, wE, w14, wb1, wb2, w16, wtx, w13, wd, wEn⟩ := Vz
    exact ⟨(u1.ii (by decide)).trans w4, wE, (u1.ii (by decide)).trans w14, wb1, wb2, (u1.ii (by decide)).trans w16, wtx, (u1.ii (by decide)).trans w13, wd, fun i hi => (wEn i hi).up (by rw [u1.aa (by decide)]) (by rw [u1.aa (by decide)]) (by rw [uL]) (fun i _ => by rw [u1.aa (by decide)]) (Nat.le_refl _)⟩
  have vb := v1.2.2.2.1
  have Cu : CsC u F G b' dE' CK := v2.up (fun s hs => ut s hs) (fun w hw' => by rw [u88, upd_ne (by omega), z2.aa id]) (fun w _ j _ => by rw [u1.aa (by decide), z2.aa id]) (fun i _ => by rw [uL, z2.ll (by decide)]) (Nat.le_refl _) (fun i _ => by rw [u82]) (Nat.le_refl _)
  have Hu : ChP u F G b' dE' CK [] g c := by
    refine ⟨Vu, Cu, ?_, ⟨⟨?_, ?_, ?_, fun z => absurd rfl z⟩, ?_, fun k hk => absurd hk (Nat.not_lt_zero _)⟩, StR.nil, u10, u12, ?_⟩
    · rw [u88, lCK, upd_at]
    · rw [u89, upd_at]
    · rw [u90, upd_at]; rfl
    · rw [u91, upd_at]; rfl
    · rw [u94, upd_at]
    · exact (u1.ii (by decide)).trans ((z2.ii (by decide)).trans v5)
  have Xu : FxC u F G (g + 1) rows := ⟨fu.rep xr, fun h hh => by rw [u1.aa (by decide), z2.aa id]; exact x87 h hh, (u1.ii (by decide)).trans ((z2.ii (by decide)).trans x971), (u1.ii (by decide)).trans ((z2.ii (by decide)).trans x972)⟩
  have tdu : TdC u 40000 (tyC F c) t := tdz.up (uL 99) (fun i _ => by rw [u1.aa (by decide)]) (Nat.le_refl _)
  obtain ⟨M, hM⟩ : ∃ M, M = if t.2.1 ≤ 40000 then t.2.1 else 40001 := ⟨_, rfl⟩
  have r1 : rL u (stC 96 6) 1 = lN t.2.1 := (rL_nI (o := 99) (k := 1) (by decide)).trans tdu.2.1
  have vin1 : vp_in 1 (fN u (stC 96 6)) := by rw [show stC 96 6 = 99 from rfl, show fN u 99 = 6 from Lu 99 (by decide)]; exact vp_in_nI (n := 1) (by decide) (by decide)
  have ckk : cksO T F K (G.getD g 0) g (d + 1) c CK A pp = (match ckO T F c t (G.getD g 0) A (enA CK) pp with
    | .error (e, k) => .error (e, nI g, nI c, k)
    | .ok (X, q) => cksO T F K (G.getD g 0) g d (c + 1) (CK ++ [X]) (ckC X) q) := by
    have e2 : K.getD (ncol F * g + c) t0 = t := by rw [Nat.mul_comm (ncol F) g, ← lCK, et]
    simp only [cksO]
    rw [e2]
    rfl
  have pages : ∃ nn, wl_Opn_lookAtChunks_182 post rec60 Q nn 96 (nI g) (nI c) (nI (tlN CK)) (lN M) 0 u := by
    refine k_pgs (b := b') (dE := dE') (t := t) (rows := rows) Su4 hw cc hg hg2 lCK Hu Xu hsm u11 (by omega) (by omega) y4 yc hM (fun e k v l6 v1 v2 v3 v4 v5 v6 => ?_) (fun X q' sq v bb dd l6 v1 v2 v102 v99 v82 v87 Sv v3 v4 Hv v5 v11 => ?_)
    · unfold j_Opn_lookAtChunks_236 j_Opn_lookAtChunks_260
      refine bn_f v3.ne (br_f v3.ne ?_)
      rw [show stC 96 2 = 104 from rfl, v3.1]
      refine pe (e, nI g, nI c, nI k) v ?_ (y1.trans (fu.trans v2)) v3 v4 v5 v6
      rw [yk, ckk]
      unfold ckO
      rw [v1]
    · -- the end of the chunk
      obtain ⟨okX, lX⟩ := pgsO_all hw cc hT _ _ _ _ _ _ v1 (fun e he => absurd he (by simp [ckC]))
      have ok1 : ckO T F c t (G.getD g 0) A (enA CK) pp = (if q' < pp + t.1 then .error (6, -1) else if ckE F c t (G.getD g 0) A (ckC X) ≠ 0 then .error (ckE F c t (G.getD g 0) A (ckC X), -1) else .ok (X, q')) := by unfold ckO; rw [v1]
      unfold j_Opn_lookAtChunks_236
      rw [show stC 96 2 = 104 from rfl]
      refine bn_t Sv.h0 (k_lookAt Sv.1.1 (fun s s1 s98a s98b s98c => ?_))
      have s98 : ∀ r, r ≠ 98 → fA s r = fA v r := fun r hr => s1.aa hr
      have Ss : Sr 104 s T n q' sq := Sv.cg s1 (by decide) id id id
      have sI : ∀ a k, fI s a k = fI v a k := fun a k => s1.ii id
      have sL : ∀ r, fL s r = fL v r := fun r => s1.ll id
      obtain ⟨a1, a2, a3, a4, a5, a6, a7, a8⟩ := Hv
      obtain ⟨w4, wE, w14, wb1, wb2, w16, wtx, w13, wd, wEn⟩ := a1
      have fs : FrLC y s := fu.trans (v2.trans (FrLC.of s1 (fun _ _ w => w.elim) (fun _ _ w => w) (fun _ _ w => w) (fun a w => by have : a = 98 := w; omega) (fun _ w => w.elim)))
      have Rs : RepC s 70 F := fs.rep xr
      have s82 : ∀ i, i < 40000 → fA s 82 i = fA u 82 i := fun i hi => by rw [s98 82 (by decide)]; exact v2.2 i hi
      have Hs : ChP s F G bb dd CK X g c := by
        refine ⟨⟨(sI _ _).trans w4, wE, (sI _ _).trans w14, wb1, wb2, (sI _ _).trans w16, wtx, (sI _ _).trans w13, wd, fun i hi => (wEn i hi).up (by rw [s98 83 (by decide)]) (by rw [s98 84 (by decide)]) (by rw [sL]) (fun i _ => by rw [s98 82 (by decide)]) (Nat.le_refl _)⟩, a2.up (fun r _ => ⟨by rw [s98 89 (by decide)], by rw [s98 90 (by decide)], by rw [s98 91 (by decide)], by rw [s98 94 (by decide)], by rw [sL], by rw [sL]⟩) (fun r _ => by rw [s98 88 (by decide)]) (fun r _ j _ => by rw [s98 86 (by decide)]) (fun i _ => by rw [sL]) (Nat.le_refl _) (fun i _ => by rw [s98 82 (by decide)]) (Nat.le_refl _), by rw [s98 88 (by decide)]; exact a3, a4.up (fun r _ _ => ⟨by rw [s98 89 (by decide)], by rw [s98 90 (by decide)], by rw [s98 91 (by decide)], by rw [s98 94 (by decide)], by rw [sL], by rw [sL]⟩) (fun i _ => by rw [sL]) (Nat.le_refl _) (fun i _ => by rw [s98 82 (by decide)]) (Nat.le_refl _), a5.up (fun j _ => by rw [s98 86 (by decide)]), (sI _ _).trans a6, (sI _ _).trans a7, (sI _ _).trans a8⟩
      have s87 : fA s 87 = fA y 87 := by rw [s98 87 (by decide), v87, u1.aa (by decide), z2.aa id]
      have sg := smN_take (G := G) (g := g) hg
      have sle := smN_le (G := G) (g := g + 1)
      have lE : (enA CK ++ ckC X).length = (enA CK).length + (ckC X).length := List.length_append
      have Vs := Hs.1
      refine k_endC (b := bb) (c := c) (ct := tlN CK) (g := g) (G0 := smN (G.take g)) (rh := G.getD g 0) (pE := pp + t.1) (first := (enA CK).length) (tb := tlN (CK.take (CK.length - 1))) (fa := (enA (CK.take (CK.length - 1))).length) (C := ckC X) (A := A) (t := t) Ss hw Rs cc (by omega) (by omega) Hs.2.2.2.1.1 (by omega) (fun k hk => ?_) okX ((sI _ _).trans v11) v3 (by omega) ((sI _ _).trans a7) hg2 (by rw [s87]; exact x87 g (by omega)) (by rw [s87, x87 (g + 1) (Nat.le_refl _), sg]) (by omega) (tdu.up ((sL 99).trans v99) s82 (by omega)) tdok4 tdok5 (fun c1' => ?_) (fun e w h1 w1 w2 => ?_) (fun h1 h2 => ?_)
      · have := Vs.2.2.2.2.2.2.2.2.2 ((enA CK).length + k) (by omega)
        rw [getD_r] at this
        exact this
      · -- the column before it
        have lw : CK.length - 1 < CK.length := by omega
        obtain ⟨b1, b2, b3⟩ := Hs.2.1 (CK.length - 1) lw
        have hA' := hA c1'
        have tb6 : tlN (CK.take (CK.length - 1)) ≤ tlN CK := by
          have := tlN_mono (CK := CK) CK.length (CK.length - 1) (by omega) (Nat.le_refl _)
          rw [List.take_length] at this
          exact this
        have es : enA CK = enA (CK.take (CK.length - 1)) ++ A := by
          rw [hA', enA_split lw, show CK.length - 1 + 1 = CK.length by omega, List.drop_length]
          show _ ++ [] = _
          rw [List.append_nil]
        have el := congrArg List.length es
        rw [List.length_append] at el
        refine ⟨by rw [show g * ncol F + c - 1 = CK.length - 1 by omega]; exact b1, by omega, b2.1.1, by rw [hA']; exact b2.1.2.1, by omega, gN, fun k hk => ?_⟩
        have ev := Vs.2.2.2.2.2.2.2.2.2 ((enA (CK.take (CK.length - 1))).length + k) (by omega)
        have eg : (enA CK ++ ckC X).getD ((enA (CK.take (CK.length - 1))).length + k) en0 = A.getD k en0 := by
          rw [getD_l (by omega), es, getD_r]
        rw [eg] at ev
        have mem : A.getD k en0 ∈ enA CK := by
          rw [es]
          refine List.mem_append.mpr (Or.inr ?_)
          rw [en_at hk]
          exact List.getElem_mem hk
        obtain ⟨o1, o2, o3, -⟩ := yok _ mem
        have := lv17 hw o1
        exact ⟨ev.1, ev.2.1, by omega, by omega⟩
      · unfold j_Opn_lookAtChunks_260
        refine br_f w2.ne ?_
        rw [show stC 96 2 = 104 from rfl, w2.1]
        refine pe (e, nI g, nI c, -1) w ?_ (y1.trans (fs.trans (FrLC.of w1 (fun o k z => Or.inl ⟨z.1, by omega⟩) (fun _ _ z => z) (fun _ _ z => z) (fun a z => z.elim) (fun a z => z.elim)))) w2 (by rw [w1.aa id]; exact s98a) (by rw [w1.aa id]; exact s98b) (by rw [w1.aa id]; exact s98c)
        rw [yk, ckk, ok1]
        rcases h1 with ⟨g1, g2⟩ | ⟨g1, g2, g3⟩
        · rw [if_pos g1, g2]
        · rw [if_neg g1, if_pos g2, g3]
      · unfold j_Opn_lookAtChunks_260
        refine br_t Ss.h0 ?_
        rw [nI_1]
        rw [if_neg h1, if_neg (fun z => z h2)] at ok1
        have lC : (CK ++ [X]).length = CK.length + 1 := by rw [List.length_append]; rfl
        have tX : tlN (CK ++ [X]) = tlN CK + (X.length + 1) := tlN_add
        have lX' : X.length = t.2.1 := by rw [lX]; show 0 + _ = _; omega
        refine ih _ _ _ _ ⟨rfl, rfl, y1.trans fs, c + 1, CK ++ [X], ckC X, K' ++ [t], q, q', sq, bb, dd, rfl, by omega, by omega, by rw [List.length_append, lK]; rfl, fun _ => ?_, Ss, ?_, ?_, Hs.be cc lCK, ⟨Rs, fun h hh => by rw [s87]; exact x87 h hh, ?_, ?_⟩, ?_, by omega, by omega, fun e he => ?_, ?_⟩ (by rw [nI_clamp (by omega), nI_clamp (by omega)]; omega)
        · rw [lC, Nat.add_sub_cancel, getD_n]
        · exact ⟨Ss.1, (sI _ _).trans ((v102 102 3 rfl).trans Su2.h0), (sI _ _).trans ((v102 102 1 rfl).trans Su2.hp), (sI _ _).trans ((v102 102 2 rfl).trans Su2.hs), Su2.2.2.2.2.1, Su2.2.2.2.2.2⟩
        · rw [show ncol F - (c + 1) = d by omega]
          exact yt2
        · exact (fs.1.ii (by decide)).trans x971
        · exact (fs.1.ii (by decide)).trans x972
        · rw [lC, bt]; omega
        · rw [enA_add] at he
          rcases List.mem_append.mp he with z | z
          · exact yok e z
          · exact (okX e z).1
        · rw [yk, ckk, ok1, show ncol F - (c + 1) = d by omega]
  refine ⟨vin1, ?_⟩
  rw [r1, show (40000 : Int64) = lN 40000 from rfl]
  refine k_within tdu.2.2.2.2.2.1 (by decide) (fun c4 => br_f (by decide) ⟨vin1, ?_⟩) (fun c4 => br_t rfl ?_)
  · unfold j_Opn_lookAtChunks_177
    rw [r1]
    rw [hM, if_pos c4] at pages
    exact pages
  · unfold j_Opn_lookAtChunks_177
    rw [hM, if_neg (by omega)] at pages
    exact pages
end
