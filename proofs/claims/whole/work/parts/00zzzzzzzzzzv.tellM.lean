/-! chunks and pages tell, model -/
theorem pgP_row {c : Nat} : ∀ {G : List PgW} {row k : Nat}, k < G.length → (pgP c row G).getD k pg0 = (c, row + nR (ckC (G.take k)), (G.getD k ([], [])).1, (G.getD k ([], [])).2)
  | [], _, _, h => absurd h (Nat.not_lt_zero _)
  | g :: G, row, 0, _ => rfl
  | g :: G, row, k + 1, h => by
    show (pgP c (row + nR g.1) G).getD k pg0 = _
    rw [pgP_row (G := G) (Nat.lt_of_succ_lt_succ h)]
    show _ = (c, row + nR (ckC (g :: G.take k)), _, _)
    rw [ckC_cons, nR_app, ← Nat.add_assoc]
    rfl
theorem ppA_pre {nC : Nat} {G : List Nat} {CK : List (List PgW)} {w : Nat} : ∀ m, w + m ≤ CK.length → ∃ Z, ppA nC G (CK.take (w + m)) = ppA nC G (CK.take w) ++ Z
  | 0, _ => ⟨[], (List.append_nil _).symm⟩
  | m + 1, h => by
    obtain ⟨Z, e⟩ := ppA_pre (nC := nC) (G := G) (CK := CK) (w := w) m (by omega)
    have t : CK.take (w + (m + 1)) = CK.take (w + m) ++ [CK.getD (w + m) []] := by
      rw [← Nat.add_assoc, List.take_succ_eq_append_getElem (by omega), List.getD_eq_getElem?_getD, List.getElem?_eq_getElem (by omega)]
      rfl
    rw [t, ppA_add, e, List.append_assoc]
    exact ⟨_, rfl⟩
theorem ppA_at {nC : Nat} {G : List Nat} {CK : List (List PgW)} {w k : Nat} (hw : w < CK.length) (hk : k < (CK.getD w []).length) : (ppA nC G (CK.take w)).length + k < (ppA nC G CK).length ∧ (ppA nC G CK).getD ((ppA nC G (CK.take w)).length + k) pg0 = (pgP (w % nC) (smN (G.take (w / nC))) (CK.getD w [])).getD k pg0 := by
  obtain ⟨Z, e⟩ := ppA_pre (nC := nC) (G := G) (CK := CK) (w := w + 1) (CK.length - (w + 1)) (by omega)
  rw [show w + 1 + (CK.length - (w + 1)) = CK.length by omega, List.take_length] at e
  have t : CK.take (w + 1) = CK.take w ++ [CK.getD w []] := by
    rw [List.take_succ_eq_append_getElem hw, List.getD_eq_getElem?_getD, List.getElem?_eq_getElem hw]
    rfl
  rw [t, ppA_add, List.length_take, Nat.min_eq_left (Nat.le_of_lt hw)] at e
  rw [e]
  refine ⟨by rw [List.length_append, List.length_append, pgP_len]; omega, ?_⟩
  rw [List.append_assoc, gD_right (Nat.le_add_right _ _), Nat.add_sub_cancel_left, gD_left (by rw [pgP_len]; exact hk)]
theorem ppA_lt {nC : Nat} {G : List Nat} {CK : List (List PgW)} {w p : Nat} (hw : w ≤ CK.length) (hp : p < (ppA nC G (CK.take w)).length) : ∃ u k, u < w ∧ k < (CK.getD u []).length ∧ (ppA nC G CK).getD p pg0 = (pgP (u % nC) (smN (G.take (u / nC))) (CK.getD u [])).getD k pg0 := by
  induction w with
  | zero => exact absurd hp (Nat.not_lt_zero _)
  | succ w ih =>
    by_cases d : p < (ppA nC G (CK.take w)).length
    · obtain ⟨u, k, h1, h2⟩ := ih (by omega) d
      exact ⟨u, k, by omega, h2⟩
    · have t : CK.take (w + 1) = CK.take w ++ [CK.getD w []] := by
        rw [List.take_succ_eq_append_getElem (by omega), List.getD_eq_getElem?_getD, List.getElem?_eq_getElem (by omega)]
        rfl
      rw [t, ppA_add, List.length_append, pgP_len] at hp
      have hk : p - (ppA nC G (CK.take w)).length < (CK.getD w []).length := by omega
      obtain ⟨-, h2⟩ := ppA_at (nC := nC) (G := G) (by omega : w < CK.length) hk
      rw [show (ppA nC G (CK.take w)).length + (p - (ppA nC G (CK.take w)).length) = p by omega] at h2
      exact ⟨w, _, Nat.lt_succ_self _, hk, h2⟩
theorem ckC_split {X : List PgW} (k : Nat) : ckC X = ckC (X.take k) ++ ckC (X.drop k) := by
  conv => lhs; rw [← List.take_append_drop k X]
  unfold ckC
  rw [List.map_append, List.flatten_append]
theorem nR_pre {X : List PgW} {k : Nat} (hk : k < X.length) : nR (ckC (X.take k)) + nR (X.getD k ([], [])).1 = nR (ckC (X.take (k + 1))) ∧ nR (ckC (X.take (k + 1))) ≤ nR (ckC X) := by
  refine ⟨by rw [ckC_take hk, nR_app], ?_⟩
  have : ckC X = ckC (X.take (k + 1)) ++ ckC (X.drop (k + 1)) := by
    conv => lhs; rw [← List.take_append_drop (k + 1) X]
    unfold ckC
    rw [List.map_append, List.flatten_append]
  rw [this, nR_app]
  exact Nat.le_add_right _ _
theorem ckC_pre {X : List PgW} {a b : Nat} (h : a ≤ b) : (ckC (X.take a)).length ≤ (ckC (X.take b)).length := by
  have : X.take b = X.take a ++ (X.take b).drop a := by
    conv => lhs; rw [← List.take_append_drop a (X.take b)]
    rw [List.take_take, Nat.min_eq_left h]
  rw [this]
  unfold ckC
  rw [List.map_append, List.flatten_append, List.length_append]
  exact Nat.le_add_right _ _
/-- what a run reads -/
def RnM (x : St) (F : List SFd) (G : List Nat) (K : List ChT) (CK : List (List PgW)) (Pl : List PV) : Prop := RdM x F G CK Pl ∧ fI x 0 85 = nI G.length ∧ K.length = CK.length ∧ (∀ w, w < K.length → KtW x F Pl w (w % ncol F) (K.getD w t0)) ∧ (ppA (ncol F) G CK).length ≤ 10000 ∧ ∀ k, k < (ppA (ncol F) G CK).length → PgO x F Pl k ((ppA (ncol F) G CK).getD k pg0)
section
variable {x y : St} {F : List SFd} {G : List Nat} {K : List ChT} {CK : List (List PgW)} {Pl : List PV} {g j : Nat}
theorem RnM.lk (H : RnM x F G K CK Pl) (f : FrLk x y) : RnM y F G K CK Pl := by
  have ra : ∀ a, a < 96 → fA y a = fA x a := fun a c => f.2.2.2.1 a (fun z => by omega)
  obtain ⟨h1, h2, h3, h4, h5, h6⟩ := H
  refine ⟨h1.lk f, (f.1 0 85 (fun z => by omega)).trans h2, h3, fun w hw => ?_, h5, fun k hk => ?_⟩
  · have := h4 w hw
    unfold KtW at *
    rw [ra 61 (by decide), ra 62 (by decide), ra 63 (by decide), ra 64 (by decide)]
    exact this
  · have := (h6 k hk).cg (y := y) (Z := []) (fun r r1 r2 => by rw [ra r (by omega)])
    rw [List.append_nil] at this
    exact this
theorem OpM.rn {rows : Nat} (hL : LM x) (h : OpM x F rows G K CK) (hk : KtO F G K CK) : ∃ Pl, RnM x F G K CK Pl := by
  obtain ⟨h1, h2, h3, h4, h5, h6, h7, h8, h9, h10, h11, h12, h13, Q, q1, q2, q3, q4, q5, q6, q7⟩ := h
  refine ⟨Q, ⟨hL, h1, fun g hg => (h9 g hg).1, h8, by omega, by omega, fun w hw => ⟨q3 w hw, ?_⟩, q4, q2.1, q2.2.2.2.1⟩, h7, h13.symm, q1, by omega, q2.2.2.2.2⟩
  rw [(q1 w (by omega)).2.2.1, hk.len hw]
/-- other columns' tellers stay -/
def TdK (x y : St) (c : Nat) : Prop := ∀ k, 97 ≤ k → k ≤ 102 → ∀ d, d ≠ c → fA y k d = fA x k d
theorem TdM.keep {ty c d : Nat} {t : Tl} (h : TdM x ty Pl d t) (k : TdK x y c) (hd : d ≠ c) : TdM y ty Pl d t := by
  unfold TdM at *
  rw [k 97 (by decide) (by decide) d hd, k 98 (by decide) (by decide) d hd, k 99 (by decide) (by decide) d hd, k 100 (by decide) (by decide) d hd, k 101 (by decide) (by decide) d hd, k 102 (by decide) (by decide) d hd]
  exact h
theorem kv_id {ty : Nat} {v : PV} (o : okPv ty v) : kv ty v = v := by
  unfold kv
  by_cases t : ty = 3
  · rw [if_pos t]
    have := (o.1 t).2
    rw [← this]
  · rw [if_neg t]
    have := o.2.1 t
    rw [← this]
theorem s_tellChunk {post : St → Prop} {f : Nat} (H : RnM x F G K CK Pl) (hw : WfS F) (ok : OkO F G CK) (hk : KtO F G K CK) (hl : CK.length = ncol F * G.length) (hg : g < G.length) (hf : colF F f)
    (p : ∀ y, FrLk x y → (∀ k, fI y 0 k = fI x 0 k) → fA y 103 = fA x 103 → TdK x y (ncol (F.take f)) → TdM y (tyC F (ncol (F.take f))) Pl (ncol (F.take f)) (tlK F CK g (ncol (F.take f))) → post y) : wp_Mod_tellChunk post (nI g) (nI (ncol (F.take f))) x := by
  obtain ⟨hc, -⟩ := col_ok hw hf
  obtain ⟨lw, h1, -⟩ := ok.at hl hg hc
  have hC := hw.2.1
  obtain ⟨HR, h85, hKl, hK, -, -⟩ := H
  obtain ⟨hL, hR, -, -, -, hC4, -, -, -, -⟩ := HR
  generalize hce : ncol (F.take f) = c at *
  have kt := hK (ncol F * g + c) (by omega)
  obtain ⟨A, ck⟩ := hk _ lw
  rw [Nat.mul_add_mod, Nat.mod_eq_of_lt hc] at kt ck
  have hC' : ckC (CK.getD (ncol F * g + c) []) = ckG F CK g c := rfl
  rw [hC'] at ck
  generalize hw' : ncol F * g + c = w at *
  generalize K.getD w t0 = t at *
  obtain ⟨-, -, t61, t62, -, t3, t4, -, t6⟩ := kt
  unfold ckE at ck
  by_cases c1 : (ckG F CK g c).length ≠ t.2.2.1 ∨ nR (ckG F CK g c) ≠ G.getD (w / ncol F) 0
  · rw [if_pos c1] at ck; exact absurd ck (by decide)
  rw [if_neg c1] at ck
  by_cases c2 : (ckG F CK g c).length - (vlE (mdC F c) (ckG F CK g c)).length ≠ t.2.2.2.1
  · rw [if_pos c2] at ck; exact absurd ck (by decide)
  rw [if_neg c2] at ck
  by_cases c3 : vlE (mdC F c) (ckG F CK g c) ≠ [] ∧ kv (tyC F c) (mnV (tyC F c) (vlE (mdC F c) (ckG F CK g c))) ≠ kv (tyC F c) t.2.2.2.2.1
  · rw [if_pos c3] at ck; exact absurd ck (by decide)
  rw [if_neg c3] at ck
  by_cases c4 : vlE (mdC F c) (ckG F CK g c) ≠ [] ∧ kv (tyC F c) (mxV (tyC F c) (vlE (mdC F c) (ckG F CK g c))) ≠ kv (tyC F c) t.2.2.2.2.2
  · rw [if_pos c4] at ck; exact absurd ck (by decide)
  have l1 : (ckG F CK g c).length = t.2.2.1 := Classical.not_not.mp (fun z => c1 (Or.inl z))
  have l2 : (ckG F CK g c).length - (vlE (mdC F c) (ckG F CK g c)).length = t.2.2.2.1 := Classical.not_not.mp c2
  have okV := vlE_ok h1
  unfold wp_Mod_tellChunk
  have e10 : rA x 10 1 = nI (ncol F) := by
    show fA x 10 1 = _
    exact hR.2.1
  have c64 : c < 64 := by omega
  have w4 : w < 13400 := by omega
  have vw : vp_in (nI w) 13400 := vp_in_nI w4 (by decide)
  have vc : vp_in (nI c) 64 := vp_in_nI c64 (by decide)
  rw [show fN x 10 = 3 from hL 10]
  refine ⟨vp_in_nI (by decide) (by decide), nm_r (e' := nI w) (by rw [e10, nI_mul, nI_add, hw']) ?_⟩
  have rw1 : ∀ a, rA x a (nI w) = fA x a w := fun a => rA_nI (by omega)
  rw [show fN x 61 = 13400 from hL 61, show fN x 97 = 64 from hL 97]
  refine ⟨vw, vc, nm_e ⟨by show vp_in _ (fN x 62); rw [show fN x 62 = 13400 from hL 62]; exact vw, by show vp_in _ (fN x 98); rw [show fN x 98 = 64 from hL 98]; exact vc, nm_e ⟨by show vp_in _ (fN x 63); rw [show fN x 63 = 13400 from hL 63]; exact vw, by show vp_in _ (fN x 99); rw [show fN x 99 = 64 from hL 99]; exact vc, nm_e ⟨by show vp_in _ (fN x 64); rw [show fN x 64 = 13400 from hL 64]; exact vw, by show vp_in _ (fN x 100); rw [show fN x 100 = 64 from hL 100]; exact vc, nm_e ⟨by show vp_in _ (fN x 102); rw [show fN x 102 = 64 from hL 102]; exact vc, nm_e ?_⟩⟩⟩⟩⟩
  have clc : (nI c).toNatClampNeg = c := nI_clamp (by omega)
  refine p _ ?_ (fun k => rfl) ?_ ?_ ?_
  · exact (Fg.a (by decide)).trans ((Fg.a (by decide)).trans ((Fg.a (by decide)).trans ((Fg.a (by decide)).trans (Fg.a (by decide)))))
  · rw [gA_ne (by decide), gA_ne (by decide), gA_ne (by decide), gA_ne (by decide), gA_ne (by decide)]
  · intro k _ _ d hd
    rw [gA_off (by omega) hd, gA_off (by omega) hd, gA_off (by omega) hd, gA_off (by omega) hd, gA_off (by omega) hd]
  · have vl := vlE_le (md := mdC F c) (ckG F CK g c)
    refine ⟨?_, ?_, ?_, Nat.sub_le _ _, ?_, Nat.zero_le _, fun hs => ?_, 0, fun z => absurd rfl z, Nat.zero_le _, fun i hi => absurd hi (Nat.not_lt_zero _)⟩
    · show fA _ 97 c = nI (ckG F CK g c).length
      rw [gA_ne (by decide), gA_ne (by decide), gA_ne (by decide), gA_ne (by decide), gA_on (by omega), rw1, t61, l1]
    · show fA _ 98 c = nI ((ckG F CK g c).length - (vlE (mdC F c) (ckG F CK g c)).length)
      rw [gA_ne (by decide), gA_ne (by decide), gA_ne (by decide), gA_on (by omega)]
      show rA x 62 (nI w) = _
      rw [rw1, t62, l2]
    · show (ckG F CK g c).length ≤ 10000
      omega
    · show fA _ 102 c = 0
      rw [gA_on (by omega)]
    · have hs : (ckG F CK g c).length - (vlE (mdC F c) (ckG F CK g c)).length < (ckG F CK g c).length := hs
      have vne : vlE (mdC F c) (ckG F CK g c) ≠ [] := fun z => by
        rw [z] at hs
        exact absurd hs (by show ¬ _ - 0 < _; omega)
      obtain ⟨a, b, ha, hb, a1, b1, a2, b2, oa, ob⟩ := t6 (by omega)
      have k3 : kv (tyC F c) (mnV (tyC F c) (vlE (mdC F c) (ckG F CK g c))) = kv (tyC F c) t.2.2.2.2.1 := Classical.not_not.mp (fun z => c3 ⟨vne, z⟩)
      have k4 : kv (tyC F c) (mxV (tyC F c) (vlE (mdC F c) (ckG F CK g c))) = kv (tyC F c) t.2.2.2.2.2 := Classical.not_not.mp (fun z => c4 ⟨vne, z⟩)
      obtain ⟨m1, m2⟩ := mn_all okV (fun z => vne (List.length_eq_zero_iff.mp z))
      rw [kv_id (okV _ m1.1), kv_id oa] at k3
      rw [kv_id (okV _ m2.1), kv_id ob] at k4
      refine ⟨a, b, ha, hb, ?_, ?_, a2.trans k3.symm, b2.trans k4.symm, (okV _ m1.1).v, (okV _ m2.1).v⟩
      · rw [gA_ne (by decide), gA_ne (by decide), gA_on (by omega)]
        show rA x 63 (nI w) = _
        rw [rw1, a1]
      · rw [gA_ne (by decide), gA_on (by omega)]
        show rA x 64 (nI w) = _
        rw [rw1, b1]
/-- pages as they lie -/
theorem pg_any (ok : OkO F G CK) (hl : CK.length = ncol F * G.length) {w p : Nat} (hw : w ≤ CK.length) (hp : p < (ppA (ncol F) G (CK.take w)).length) : ∃ u, u < w ∧ ((ppA (ncol F) G CK).getD p pg0).1 = u % ncol F ∧ u / ncol F < G.length ∧ ((ppA (ncol F) G CK).getD p pg0).2.1 + nR ((ppA (ncol F) G CK).getD p pg0).2.2.1 ≤ smN (G.take (u / ncol F + 1)) := by
  obtain ⟨u, k, h1, h2, h3⟩ := ppA_lt (nC := ncol F) (G := G) hw hp
  have hN : 0 < ncol F := by
    rcases Nat.eq_zero_or_pos (ncol F) with z | z
    · rw [z, Nat.zero_mul] at hl; omega
    · exact z
  have hu : u / ncol F < G.length := Nat.div_lt_of_lt_mul (by omega)
  obtain ⟨-, -, -, -, o5, -⟩ := ok u (by omega)
  rw [h3, pgP_row h2]
  refine ⟨u, h1, rfl, hu, ?_⟩
  show smN (G.take (u / ncol F)) + nR (ckC ((CK.getD u []).take k)) + nR ((CK.getD u []).getD k ([], [])).1 ≤ _
  obtain ⟨n1, n2⟩ := nR_pre h2
  rw [smN_take hu]
  omega
theorem s_tellPage {post : Int32 → St → Prop} {f : Nat} (H : RnM x F G K CK Pl) (hw : WfS F) (ok : OkO F G CK) (wd : WdO F CK) (hl : CK.length = ncol F * G.length) (hg : g < G.length) (hf : colF F f) (hj : j < G.getD g 0)
    (p : ∀ y, FrLk x y → (∀ k, fI y 0 k = fI x 0 k) → fA y 103 = fA x 103 → TdK x y (ncol (F.take f)) → TdM y (tyC F (ncol (F.take f))) Pl (ncol (F.take f)) (tlP F CK g j (ncol (F.take f))) → post (nI (smN (G.take g) + pgE (CK.getD (ncol F * g + ncol (F.take f)) []) j)) y) : wp_Mod_tellPage post (nI (smN (G.take g) + j)) (nI (ncol (F.take f))) x := by
  obtain ⟨hc, hlf⟩ := col_ok hw hf
  obtain ⟨lw, h1, -⟩ := ok.at hl hg hc
  have fl : (ckC (CK.getD (ncol F * g + ncol (F.take f)) [])).length = G.getD g 0 := flat_len hw ok hl hf hg
  have hC := hw.2.1
  obtain ⟨HR, h85, hKl, hK, hPl, hPg⟩ := H
  obtain ⟨hL, hR, -, -, h2000, hC4, -, -, -, -⟩ := HR
  have flat : ∀ k, nR (ckC ((CK.getD (ncol F * g + ncol (F.take f)) []).take k)) = (ckC ((CK.getD (ncol F * g + ncol (F.take f)) []).take k)).length := by
    intro k
    unfold nR
    rw [List.filter_eq_self.mpr]
    intro e he
    have he2 : e ∈ ckC (CK.getD (ncol F * g + ncol (F.take f)) []) := by
      rw [ckC_split k]
      exact List.mem_append_left _ he
    obtain ⟨o1, o2⟩ := h1 e he2
    have := o1.2.1
    rw [o2] at this
    have z : mrC F (ncol (F.take f)) = 0 := by
      show rF F (lfC F (ncol (F.take f))) = 0
      rw [hlf]
      exact hf.2.2
    exact decide_eq_true (by omega)
  have wdA := wd _ lw
  rw [Nat.mul_add_mod, Nat.mod_eq_of_lt hc] at wdA
  generalize hce : ncol (F.take f) = c at *
  generalize hX : CK.getD (ncol F * g + c) [] = X at *
  have hjX : j < (ckC X).length := by omega
  obtain ⟨o1, o2, o3, o4⟩ := pgI_ok hjX
  have tg := ppA_at (nC := ncol F) (G := G) lw (by rw [hX]; exact o1)
  have hN : 0 < ncol F := by omega
  have ew : (ncol F * g + c) / ncol F = g := by rw [Nat.mul_add_div hN, Nat.div_eq_of_lt hc, Nat.add_zero]
  have em : (ncol F * g + c) % ncol F = c := by rw [Nat.mul_add_mod, Nat.mod_eq_of_lt hc]
  rw [hX, ew, em, pgP_row o1] at tg
  obtain ⟨t1, t2⟩ := tg
  have sg := smN_take hg
  have sG := smN_le (G := G) (g := g + 1)
  have bad : ∀ p, p < (ppA (ncol F) G (CK.take (ncol F * g + c))).length + pgI X j → ((ppA (ncol F) G CK).getD p pg0).1 = c → ((ppA (ncol F) G CK).getD p pg0).2.1 + nR ((ppA (ncol F) G CK).getD p pg0).2.2.1 ≤ smN (G.take g) + j := by
    intro p hp e
    by_cases d : p < (ppA (ncol F) G (CK.take (ncol F * g + c))).length
    · obtain ⟨u, u1, u2, u3, u4⟩ := pg_any ok hl (Nat.le_of_lt lw) d
      rw [e] at u2
      have du : u / ncol F < g := by
        rcases Nat.lt_or_ge (u / ncol F) g with z | z
        · exact z
        · have := Nat.div_add_mod u (ncol F)
          have m2 := Nat.mul_le_mul_left (ncol F) z
          omega
      have := smN_mono (G := G) (a := u / ncol F + 1) (b := g) du
      omega
    · have hk : p - (ppA (ncol F) G (CK.take (ncol F * g + c))).length < X.length := by omega
      obtain ⟨-, a2⟩ := ppA_at (nC := ncol F) (G := G) lw (by rw [hX]; exact hk)
      rw [show (ppA (ncol F) G (CK.take (ncol F * g + c))).length + (p - (ppA (ncol F) G (CK.take (ncol F * g + c))).length) = p by omega, hX, ew, em, pgP_row hk] at a2
      rw [a2]
      show smN (G.take g) + nR (ckC (X.take (p - (ppA (ncol F) G (CK.take (ncol F * g + c))).length))) + nR (X.getD (p - (ppA (ncol F) G (CK.take (ncol F * g + c))).length) ([], [])).1 ≤ _
      obtain ⟨n1, -⟩ := nR_pre hk
      have n2 := nR_le (ckC (X.take (p - (ppA (ncol F) G (CK.take (ncol F * g + c))).length + 1)))
      have n3 := ckC_pre (X := X) (a := p - (ppA (ncol F) G (CK.take (ncol F * g + c))).length + 1) (b := pgI X j) (by omega)
      omega
  generalize hpt : (ppA (ncol F) G (CK.take (ncol F * g + c))).length + pgI X j = pt at *
  have c64 : c < 64 := by omega
  have vc : vp_in (nI c) 64 := vp_in_nI c64 (by decide)
  unfold wp_Mod_tellPage
  refine lp_Mod_tellPage_2 (fun b1 b2 b3 y => y = x ∧ nI (smN (G.take g) + j) = b1 ∧ nI c = b2 ∧ ∃ p, p ≤ pt ∧ nI p = b3) (fun _ _ b3 _ => pt - b3.toNatClampNeg) ?_ _ _ _ _ ⟨rfl, rfl, rfl, 0, Nat.zero_le _, rfl⟩
  rintro R b1 b2 b3 y ⟨rfl, rfl, rfl, p0, hp, rfl⟩ ih
  have hp4 : p0 < (ppA (ncol F) G CK).length := by omega
  have vp : vp_in (nI p0) 10000 := vp_in_nI (by omega) (by decide)
  have rd : ∀ a, rA y a (nI p0) = fA y a p0 := fun a => rA_nI (by omega)
  obtain ⟨g66, g67, g68, g69, g70, gB, aw, g73, g74, gw1, gw2⟩ := hPg p0 hp4
  obtain ⟨u, u1, u2, u3, u4⟩ := pg_any (w := CK.length) ok hl (Nat.le_refl _) (by rw [List.take_length]; exact hp4)
  have sU := smN_le (G := G) (g := u / ncol F + 1)
  have q64 : ((ppA (ncol F) G CK).getD p0 pg0).1 < 64 := by
    have := Nat.mod_lt u hN
    omega
  have next : p0 < pt → j_Mod_tellPage_29 post R (nI (smN (G.take g) + j)) (nI c) (nI p0) y := by
    intro z
    unfold j_Mod_tellPage_29
    rw [nI_1]
    refine ih _ _ _ _ ⟨rfl, rfl, rfl, p0 + 1, z, rfl⟩ ?_
    rw [nI_clamp (by omega), nI_clamp (by omega)]
    omega
  unfold j_Mod_tellPage_2
  rw [show fN y 66 = 10000 from hL 66, show fN y 67 = 10000 from hL 67, show fN y 68 = 10000 from hL 68, rd, rd, rd, g66, g67, g68, nI_add]
  refine ⟨vp, ?_⟩
  by_cases z : p0 = pt
  · subst z
    have eE : nR (ckC (X.take (pgI X j))) + nR (X.getD (pgI X j) ([], [])).1 = pgE X j := by
      rw [(nR_pre o1).1, flat]
      rfl
    have hpg := hPg p0 hp4
    rw [t2] at hpg
    obtain ⟨-, -, -, (k69 : _ = nI (pgA X j).1.length), (k70 : _ = nI ((pgA X j).1.length - (vlE (mdC F c) (pgA X j).1).length)), (kB : BdO y (tyC F c) Pl p0 (vlE (mdC F c) (pgA X j).1)), a, k73, (k74 : _ = nI (pgA X j).2.length), (kw1 : a + (pgA X j).2.length ≤ Pl.length), (kw2 : ∀ i, i < (pgA X j).2.length → pvd Pl (a + i) = pvd (pgA X j).2 i)⟩ := hpg
    have es : ((ppA (ncol F) G CK).getD p0 pg0).2.1 + nR ((ppA (ncol F) G CK).getD p0 pg0).2.2.1 = smN (G.take g) + pgE X j := by
      rw [t2, ← eE]
      show smN (G.take g) + nR (ckC (X.take (pgI X j))) + nR (X.getD (pgI X j) ([], [])).1 = _
      omega
    have e1 : ((ppA (ncol F) G CK).getD p0 pg0).1 = c := by rw [t2]
    rw [es, e1]
    refine bn_t rfl ⟨vp, vp, br_t (by (first | omega | (simp (disch := omega) only [Int32.le_iff_toInt_le, Int32.lt_iff_toInt_lt, z_eq, z_in, nI_toInt, z_cl, z_m1, z_sg, z_255, Int32.reduceToInt] <;> omega) | (simp only [Int32.le_iff_toInt_le, Int32.lt_iff_toInt_lt, z_eq, z_in, z_add, z_sub, z_mul, z_neg, z_nI, z_cl, z_sg, z_255, z_lit, Int32.reduceToInt] <;> omega))) ?_⟩
    have nn : ∀ {z : St} {r : Nat} {v : Int32} (q : Nat), fN (setA z r (nI c) v) q = fN z q := fun _ => rfl
    have rr : ∀ {z : St} {r q : Nat} {v : Int32}, q ≠ r → rA (setA z r (nI c) v) q (nI p0) = rA z q (nI p0) := fun h => by
      show fA (setA _ _ _ _) _ _ = fA _ _ _
      rw [gA_ne h]
    rw [show fN y 69 = 10000 from hL 69, show fN y 97 = 64 from hL 97]
    refine ⟨vp, vc, nm_e ⟨by rw [nn, show fN y 70 = 10000 from hL 70]; exact vp, by rw [nn, show fN y 98 = 64 from hL 98]; exact vc, nm_e ⟨by rw [nn, nn, show fN y 71 = 10000 from hL 71]; exact vp, by rw [nn, nn, show fN y 99 = 64 from hL 99]; exact vc, nm_e ⟨by rw [nn, nn, nn, show fN y 72 = 10000 from hL 72]; exact vp, by rw [nn, nn, nn, show fN y 100 = 64 from hL 100]; exact vc, nm_e ⟨by rw [nn, nn, nn, nn, show fN y 73 = 10000 from hL 73]; exact vp, by rw [nn, nn, nn, nn, show fN y 101 = 64 from hL 101]; exact vc, nm_e ⟨by rw [nn, nn, nn, nn, nn, show fN y 74 = 10000 from hL 74]; exact vp, by rw [nn, nn, nn, nn, nn, show fN y 102 = 64 from hL 102]; exact vc, nm_e ⟨by rw [nn, nn, nn, nn, nn, nn, show fN y 67 = 10000 from hL 67]; exact vp, by rw [nn, nn, nn, nn, nn, nn, show fN y 68 = 10000 from hL 68]; exact vp, ?_⟩⟩⟩⟩⟩⟩⟩
    rw [rr (q := 67) (by decide), rr (q := 67) (by decide), rr (q := 67) (by decide), rr (q := 67) (by decide), rr (q := 67) (by decide), rr (q := 67) (by decide), rr (q := 68) (by decide), rr (q := 68) (by decide), rr (q := 68) (by decide), rr (q := 68) (by decide), rr (q := 68) (by decide), rr (q := 68) (by decide), rd, rd, g67, g68, nI_add, es]
    refine p _ ?_ (fun k => rfl) ?_ ?_ ?_
    · exact (Fg.a (by decide)).trans ((Fg.a (by decide)).trans ((Fg.a (by decide)).trans ((Fg.a (by decide)).trans ((Fg.a (by decide)).trans (Fg.a (by decide))))))
    · rw [gA_ne (by decide), gA_ne (by decide), gA_ne (by decide), gA_ne (by decide), gA_ne (by decide), gA_ne (by decide)]
    · intro k _ _ d hd
      rw [gA_off (by omega) hd, gA_off (by omega) hd, gA_off (by omega) hd, gA_off (by omega) hd, gA_off (by omega) hd, gA_off (by omega) hd]
    · have vl := vlE_le (md := mdC F c) (pgA X j).1
      have okC : ∀ e, e ∈ (pgA X j).1 → okE F e ∧ e.1 = c := fun e he => h1 e (by
        show e ∈ ckC (CK.getD (ncol F * g + c) [])
        rw [hX]
        exact pgA_sub hjX e he)
      have okV := vlE_ok okC
      have wdp := wdA _ o1
      have pl : (pgA X j).1.length ≤ (ckC X).length := by
        have := ckC_take o1
        have h9 := congrArg List.length this
        rw [List.length_append] at h9
        have := ckC_pre (X := X) (a := pgI X j + 1) (b := X.length) o1
        rw [List.take_length] at this
        show (X.getD (pgI X j) ([], [])).1.length ≤ _
        omega
      unfold tlP
      rw [hX]
      refine ⟨?_, ?_, ?_, Nat.sub_le _ _, ?_, wdp.2.2, fun hs => ?_, a, fun _ => ?_, kw1, fun i hi => ⟨kw2 i hi, (wdp.2.1 _ (pvd_mem hi)).v⟩⟩
      · show fA _ 97 c = nI (pgA X j).1.length
        rw [gA_ne (by decide), gA_ne (by decide), gA_ne (by decide), gA_ne (by decide), gA_ne (by decide), gA_on (by omega), rd, k69]
      · show fA _ 98 c = nI ((pgA X j).1.length - (vlE (mdC F c) (pgA X j).1).length)
        rw [gA_ne (by decide), gA_ne (by decide), gA_ne (by decide), gA_ne (by decide), gA_on (by omega), rr (by decide), rd, k70]
      · show (pgA X j).1.length ≤ 10000
        omega
      · show fA _ 102 c = nI (pgA X j).2.length
        rw [gA_on (by omega), rr (by decide), rr (by decide), rr (by decide), rr (by decide), rr (by decide), rd, k74]
      · have hs : (pgA X j).1.length - (vlE (mdC F c) (pgA X j).1).length < (pgA X j).1.length := hs
        have vne : vlE (mdC F c) (pgA X j).1 ≠ [] := fun z => by
          rw [z] at hs
          exact absurd hs (by show ¬ _ - 0 < _; omega)
        obtain ⟨a', b, ha, hb, a1, b1, a2, b2⟩ := kB.2 vne
        have m1 := mn_un okV a2
        have m2 := mx_un okV b2
        refine ⟨a', b, ha, hb, ?_, ?_, m1, m2, ?_, ?_⟩
        · rw [gA_ne (by decide), gA_ne (by decide), gA_ne (by decide), gA_on (by omega), rr (by decide), rr (by decide), rd, a1]
        · rw [gA_ne (by decide), gA_ne (by decide), gA_on (by omega), rr (by decide), rr (by decide), rr (by decide), rd, b1]
        · show okVv _ (mnV _ _)
          rw [← m1]
          exact (okV _ a2.1).v
        · show okVv _ (mxV _ _)
          rw [← m2]
          exact (okV _ b2.1).v
      · rw [gA_ne (by decide), gA_on (by omega), rr (by decide), rr (by decide), rr (by decide), rr (by decide), rd, k73]
  · refine ⟨fun _ => next (by omega), fun e => ⟨vp, vp, ⟨fun lt => ?_, fun _ => next (by omega)⟩⟩⟩
    have b := bad p0 (by omega) ((nI_eq (by omega) (by omega)).mp e)
    exact absurd lt (by (first | omega | (simp (disch := omega) only [Int32.le_iff_toInt_le, Int32.lt_iff_toInt_lt, z_eq, z_in, nI_toInt, z_cl, z_m1, z_sg, z_255, Int32.reduceToInt] <;> omega) | (simp only [Int32.le_iff_toInt_le, Int32.lt_iff_toInt_lt, z_eq, z_in, z_add, z_sub, z_mul, z_neg, z_nI, z_cl, z_sg, z_255, z_lit, Int32.reduceToInt] <;> omega)))
end
