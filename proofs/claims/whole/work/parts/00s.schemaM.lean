/-! the model: fields within a group, a field, the schema -/
theorem mc_err {T : Nat → Int32} {n : Nat} {F G : List SFd} {k k1 : Nat} {g g1 e : Int32} (h : ∃ c, ∀ d, runS T n (d + c) F k g = runS T n d G k1 g1) (h2 : ∃ c, ∀ d, (runS T n (d + c) G k1 g1).1 = e) : ∃ c, ∀ d, (runS T n (d + c) F k g).1 = e := by
  obtain ⟨c1, h1⟩ := h
  obtain ⟨c2, h2⟩ := h2
  refine ⟨c2 + c1, fun d => ?_⟩
  rw [show d + (c2 + c1) = d + c2 + c1 by omega, h1]
  exact h2 d
theorem mc_trans {T : Nat → Int32} {n : Nat} {F G H : List SFd} {k k1 k2 : Nat} {g g1 g2 : Int32} (h : ∃ c, ∀ d, runS T n (d + c) F k g = runS T n d G k1 g1) (h2 : ∃ c, ∀ d, runS T n (d + c) G k1 g1 = runS T n d H k2 g2) : ∃ c, ∀ d, runS T n (d + c) F k g = runS T n d H k2 g2 := by
  obtain ⟨c1, h1⟩ := h
  obtain ⟨c2, h2⟩ := h2
  refine ⟨c2 + c1, fun d => ?_⟩
  rw [show d + (c2 + c1) = d + c2 + c1 by omega, h1]
  exact h2 d
/-- reading FIELDS with so much depth to spend goes well -/
def okF (T : Nat → Int32) (n d : Nat) : Prop := ∀ (post : St → Prop) (x : St) (F : List SFd) (k : Nat) (g : Int32), StM x T n F k (-1) → gIn F g → 17 ≤ d + upS wOne (fPa F) g → rdHere T n F k g → (∀ y, outS x y T n F k g → post y) → wr_Mod_readField d post g x
/-- the fields of the group f -/
theorem s_in268 {T : Nat → Int32} {n d : Nat} (ih : okF T n d) {post : St → Prop} {x0 : St} {F0 : List SFd} {k0 f : Nat} {g a1 a2 a3 a4 : Int32} (hp : ∀ y, outS x0 y T n F0 k0 g → post y) {y0 : St} {G : List SFd} {k1 : Nat}
    (h1 : FrS x0 y0) (h2 : StM y0 T n G k1 (-1)) (h3 : gIn G (nI f)) (h4 : rdHere T n G k1 (nI f)) (h5 : f < G.length ∧ fPa G f = g) (h6 : 17 ≤ d + upS wOne (fPa G) (nI f)) (h7 : k0 < k1) (h8 : preF F0 G) (h9 : F0.length < G.length) (h10 : ∃ c, ∀ d, runS T n (d + c) F0 k0 g = runS T n d G k1 (nI f)) :
    ∃ m, wl_Mod_readField_268 post (wr_Mod_readField d) m a1 a2 a3 a4 (nI f) y0 := by
  refine lp_Mod_readField_268 (fun _ _ _ _ b4 y => nI f = b4 ∧ ∃ G k1, FrS x0 y ∧ StM y T n G k1 (-1) ∧ gIn G (nI f) ∧ rdHere T n G k1 (nI f) ∧ (f < G.length ∧ fPa G f = g) ∧ 17 ≤ d + upS wOne (fPa G) (nI f) ∧ k0 < k1 ∧ preF F0 G ∧ F0.length < G.length ∧ ∃ c, ∀ d, runS T n (d + c) F0 k0 g = runS T n d G k1 (nI f)) (fun _ _ _ _ _ y => n - (fI y 0 16).toNatClampNeg) ?_ _ _ _ _ _ _ ⟨rfl, G, k1, h1, h2, h3, h4, h5, h6, h7, h8, h9, h10⟩
  clear h1 h2 h3 h4 h5 h6 h7 h8 h9 h10
  rintro R b0 b1 b2 b3 b4 y ⟨rfl, G, k1, h1, h2, h3, h4, h5, h6, h7, h8, h9, h10⟩ ihR
  unfold j_Mod_readField_268
  refine ih _ y G k1 (nI f) h2 h3 h6 h4 (fun y2 o => ?_)
  obtain ⟨H, k2, e, o1, o2, o3, o4⟩ := o
  have hk1 := h2.2.2.2.2.2.2.1
  have hn := h2.2.2.2.2.2.2.2
  by_cases c : e = -1
  · obtain ⟨q1, q2, q3, q4, q5⟩ := o4 c
    subst c
    have hk2 := o2.2.2.2.2.2.2.1
    have hs := @skip_le T n k2 hk2
    have hsg := skip_ge T n k2
    have hl := o2.2.2.2.1.1
    refine bn_t o2.2.2.2.2.2.1 (s_takesSign o2.1 o2.2.2.2.2.1 hk2 (by decide) (fun z1 z2 z3 => br_f (by decide) (hp _ ?_)) (fun z => br_t rfl ?_))
    · have hpa : fPa H f = g := by
        show (H.getD f fd0).2.2.1 = g
        rw [q4.2 f h5.1]
        exact h5.2
      refine ⟨H, skip T n k2 + 1, -1, (h1.trans o1).trans FrS.at16, o2.go (by omega), fun z => absurd rfl z, fun _ => ⟨by omega, ?_, by omega, h8.trans q4, ?_⟩⟩
      · have := gIn_up o2.2.2.2.1 (show f < H.length by omega) q2
        rw [hpa] at this
        exact this
      · refine mc_trans h10 (mc_trans q5 ⟨1, fun d => ?_⟩)
        show (if ¬ skip T n k2 < n ∧ nI f = -1 ∧ H ≠ [] then _ else _) = _
        rw [if_neg (fun w => w.1 z2), if_pos ⟨z2, z3, nI_nm1 (by omega), fun w => by rw [nI_eq (by omega) (by omega)] at w; omega⟩, nI_clamp (by omega), hpa]
    · refine ihR _ _ _ _ _ _ ⟨rfl, H, skip T n k2, (h1.trans o1).trans FrS.at16, o2.go hs, q2, ?_, ⟨by omega, ?_⟩, ?_, by omega, h8.trans q4, by omega, ?_⟩ ?_
      · unfold rdHere
        rw [skip_skip]
        exact ⟨fun w => nI_nm1 (by omega) w.2.1, fun w => z ⟨o2.2.2.2.2.2.1, w.1, w.2.1⟩⟩
      · show (H.getD f fd0).2.2.1 = g
        rw [q4.2 f h5.1]
        exact h5.2
      · have hPG := h2.2.2.2.1.2.2.1
        rw [← upS_cg (Q := fPa H) hPG (fun a ha => by show _ = (H.getD a fd0).2.2.1; rw [q4.2 a ha]) (Or.inr ⟨f, h5.1, rfl⟩)]
        exact h6
      · refine mc_trans h10 ?_
        obtain ⟨c, hc⟩ := q5
        exact ⟨c, fun d => by rw [hc, runS_skip]⟩
      · show n - (nI (skip T n k2)).toNatClampNeg < n - (fI y 0 16).toNatClampNeg
        rw [h2.2.2.2.2.1, nI_clamp (by omega), nI_clamp (by omega)]
        omega
  · exact bn_f (fun z => c (o2.2.2.2.2.2.1.symm.trans z)) (hp y2 ⟨H, k2, e, h1.trans o1, o2, fun w => mc_err h10 (o3 w), fun w => absurd w c⟩)
theorem dep_le {F : List SFd} {g : Int32} (h : WfS F) (hg : gIn F g) : upS wOne (fPa F) g ≤ 16 := by
  rcases hg with rfl | ⟨f, h1, h2, h3, h4⟩
  · rw [upS_neg]; decide
  · rw [h2]
    exact h.2.2.2.2.2.1 f h1 h3
theorem s_readField {T : Nat → Int32} {n : Nat} : ∀ d, okF T n d := by
  intro d
  induction d with
  | zero =>
    intro post x F k g h hg hd
    have := dep_le h.2.2.2.1 hg
    omega
  | succ d ih =>
    intro post x F k g h hg hd hr hp
    have hk := h.2.2.2.2.2.2.1
    have hn := h.2.2.2.2.2.2.2
    have hW := h.2.2.2.1
    have hs1 := @skip_le T n k hk
    have hg1 := skip_ge T n k
    show wb_Mod_readField post (wr_Mod_readField d) g x
    refine s_kind h (fun kd hkd => ?_)
    rw [if_pos rfl] at hkd
    unfold j_Mod_readField_43
    by_cases ck : kd = -1
    · rw [if_pos ck]
      refine bn_t ck (s_fail ?_)
      rw [if_pos (show fI (setI x 0 16 (nI (skip T n k))) 0 17 = -1 from h.2.2.2.2.2.1)]
      refine s_f57i (h.go hs1).ill (nI_nm1 (by omega)) hg.ok (hp _ ?_)
      rw [skip_skip]
      refine ⟨F, skip T n k, nI (skip T n k), (FrS.at16.trans FrS.at17).trans FrS.at16, (h.go hs1).ill.go hs1, fun _ => ⟨1, fun d => ?_⟩, fun z => absurd z (nI_nm1 (by omega))⟩
      rw [runS_err (F' := F) (k' := skip T n k) (g' := g) hr (v := skip T n k) (by omega) (by unfold rdF; simp only [← hkd, if_pos ck])]
    · rw [if_neg ck]
      obtain ⟨j, j1, j2, j3⟩ := wdAt_in hkd.symm ck
      have hL1 := wd_end j3 hs1
      have ej : (kW.getD kd.toNatClampNeg []).length = (kW.getD j []).length := by rw [j2, Nat.zero_add, nI_clamp (by have : j < 3 := j1; omega)]
      rw [ej]
      refine bn_f ck (s_type (h.go hL1) (fun ty hty => ?_))
      rw [if_pos rfl] at hty
      have hs2 := @skip_le T n (skip T n k + (kW.getD j []).length) hL1
      have hg2 := skip_ge T n (skip T n k + (kW.getD j []).length)
      have x2 := h.go hL1
      generalize hS2 : skip T n (skip T n k + (kW.getD j []).length) = s2 at *
      have hjp : 0 < (kW.getD j []).length := by
        have : j < 3 := j1
        rcases (show j = 0 ∨ j = 1 ∨ j = 2 by omega) with e | e | e <;> rw [e] <;> decide
      unfold j_Mod_readField_128
      by_cases ct : ty = -1
      · rw [if_pos ct]
        refine bn_t ct (s_fail ?_)
        rw [if_pos (show fI (setI (setI x 0 16 _) 0 16 (nI s2)) 0 17 = -1 from h.2.2.2.2.2.1)]
        refine s_f142i (x2.go hs2).ill (nI_nm1 (by omega)) hg.ok (hp _ ?_)
        have hss : skip T n s2 = s2 := by rw [← hS2, skip_skip]
        rw [hss]
        refine ⟨F, s2, nI s2, ((FrS.at16.trans FrS.at16).trans FrS.at17).trans FrS.at16, (x2.go hs2).ill.go hs2, fun _ => ⟨1, fun d => ?_⟩, fun z => absurd z (nI_nm1 (by omega))⟩
        rw [runS_err (F' := F) (k' := s2) (g' := g) hr (v := s2) (by omega) (by unfold rdF; simp only [← hkd, if_neg ck, ej, hS2, ← hty, if_pos ct])]
      · rw [if_neg ct]
        obtain ⟨i, i1, i2, i3⟩ := wdAt_in hty.symm ct
        have hL2 := wd_end i3 hs2
        have ei : (tW.getD ty.toNatClampNeg []).length = (tW.getD i []).length := by rw [i2, Nat.zero_add, nI_clamp (by have : i < 5 := i1; omega)]
        rw [ei]
        have x3 := x2.go hL2
        refine bn_f ct ?_
        have hs3 := @skip_le T n (s2 + (tW.getD i []).length) hL2
        have hg3 := skip_ge T n (s2 + (tW.getD i []).length)
        have hw3 := @wln_le T n (skip T n (s2 + (tW.getD i []).length)) hs3
        refine s_name x3 hg.ok (fun hc => ?_) (fun hc => ?_)
        · refine s_f197 (x3.go hs3) (hp _ ?_)
          rw [if_pos rfl]
          refine ⟨F, _, nI _, ((FrS.at16.trans FrS.at16).trans FrS.at16).trans FrS.at17, (x3.go hs3).ill, fun _ => ⟨1, fun d => ?_⟩, fun z => absurd z (nI_nm1 (by omega))⟩
          rw [runS_err (F' := F) (k' := skip T n (s2 + (tW.getD i []).length)) (g' := g) hr (v := skip T n (s2 + (tW.getD i []).length)) (by omega) (by unfold rdF; simp only [← hkd, if_neg ck, ej, hS2, ← hty, if_neg ct, ei, if_pos hc])]
        · have x4 := x3.go hs3
          have hrd : ∀ s4, s4 = skip T n (skip T n (s2 + (tW.getD i []).length) + wln T n (skip T n (s2 + (tW.getD i []).length))) → rdF T n F k g = if s4 < n ∧ T s4 = (if ty = 4 then 123 else 59) then (-1, F ++ [(kd, ty, g, rowL T (skip T n (s2 + (tW.getD i []).length)) (wln T n (skip T n (s2 + (tW.getD i []).length))))], s4 + 1, if ty = 4 then nI F.length else g) else (nI s4, F ++ [(kd, ty, g, rowL T (skip T n (s2 + (tW.getD i []).length)) (wln T n (skip T n (s2 + (tW.getD i []).length))))], s4, g) := by
            intro s4 h4
            rw [h4]
            unfold rdF
            simp only [← hkd, if_neg ck, ej, hS2, ← hty, if_neg ct, ei, if_neg hc]
          generalize hS3 : skip T n (s2 + (tW.getD i []).length) = s3 at *
          generalize hWw : wln T n s3 = w at *
          have c0 : ¬ w = 0 := fun z => hc (Or.inl z)
          have c1 : ¬ 16 < w := fun z => hc (Or.inr (Or.inl z))
          have c2 : mayF F ty g = true := bf_t (fun z => hc (Or.inr (Or.inr (Or.inl z))))
          have c3 : hasN F g (rowL T s3 w) = false := bt_f (fun z => hc (Or.inr (Or.inr (Or.inr z))))
          have m2 := of_decide_eq_true c2
          generalize hX : setI (setI (setI x 0 16 (nI (skip T n k + (kW.getD j []).length))) 0 16 (nI (s2 + (tW.getD i []).length))) 0 16 (nI s3) = X at *
          have fX : FrS x X := by rw [← hX]; exact (FrS.at16.trans FrS.at16).trans FrS.at16
          have hC2 : ty = 4 ∨ ncol F < 64 := by
            by_cases d4 : ty = 4
            · exact Or.inl d4
            · exact Or.inr (m2.2.2 d4)
          have hrow : rowL (fA X 2) s3 w = rowL T s3 w := by
            rw [nm_eq]
            refine ⟨rowL_len, fun a ha => ?_⟩
            rw [rowL_at ha]
            exact (x4.1.2.2.2 (s3 + a) (by omega)).1
          have h40 : fN X 2 = 40000 := x4.1.2.2.1
          have hw' : WfS (F ++ [(kd, ty, g, rowL T s3 w)]) := WfS_add hW hg (by
            have : j < 3 := j1
            rw [j2, Nat.zero_add]
            rcases (show j = 0 ∨ j = 1 ∨ j = 2 by omega) with e | e | e <;> rw [e]
            · exact Or.inl rfl
            · exact Or.inr (Or.inl rfl)
            · exact Or.inr (Or.inr rfl)) (by
            have : i < 5 := i1
            rw [i2, Nat.zero_add]
            rcases (show i = 0 ∨ i = 1 ∨ i = 2 ∨ i = 3 ∨ i = 4 by omega) with e | e | e | e | e <;> rw [e] <;> decide) c2 c3 (by rw [rowL_len]; omega) (by rw [rowL_len]; omega)
          have hA := RepM_add (kd := kd) (ty := ty) (g := g) (r := 2) (fr := s3) (n := w) x4.2.2.1 m2.1 hW.2.1 hC2 (by decide) (by omega) (fun f hf => (hW.2.2.2.1 f hf).2.2.2.2)
          rw [hrow] at hA
          have fA' : FrS X (adF X kd ty g 2 s3 w F.length (ncol F)) := FrS.ad m2.1 hW.2.1
          unfold j_Mod_readField_205
          rw [x4.2.2.2.2.1, x4.2.2.2.2.2.1]
          refine br_t rfl ⟨by rw [x4.2.1 9]; exact vp_in_nI (n := 2) (by decide) (by decide), nm_r (e' := nI F.length) (by rw [show (2 : Int32) = nI 2 from rfl, rA_nI (by decide)]; exact x4.2.2.1.1) ?_⟩
          refine s_addField x4.2.1 x4.2.2.1.1 m2.1 x4.2.2.1.2.1 hC2 (by omega) (by rw [h40]; omega) (by rw [h40]; decide) (by decide) ?_
          have xA : StM (setI (adF X kd ty g 2 s3 w F.length (ncol F)) 0 16 (nI (s3 + w))) T n (F ++ [(kd, ty, g, rowL T s3 w)]) (s3 + w) (-1) :=
            ⟨(x4.1.fr fA').I (by decide), LM.I (x4.2.1.fr fA'), hA, hw', rfl, by show (adF X kd ty g 2 s3 w F.length (ncol F)).1 0 17 = -1; rw [adF_I]; exact x4.2.2.2.2.2.1, by omega, hn⟩
          have f1 : FrS x (setI (adF X kd ty g 2 s3 w F.length (ncol F)) 0 16 (nI (s3 + w))) := (fX.trans fA').trans FrS.at16
          refine nm_r (e' := setI (adF X kd ty g 2 s3 w F.length (ncol F)) 0 16 (nI (s3 + w))) ?_ ?_
          · rw [show fI (adF X kd ty g 2 s3 w F.length (ncol F)) 0 16 = nI s3 from by
              show (adF X kd ty g 2 s3 w F.length (ncol F)).1 0 16 = _
              rw [adF_I]
              exact x4.2.2.2.2.1, nI_add]
          · have hl' : (F ++ [(kd, ty, g, rowL T s3 w)]).length = F.length + 1 := by rw [List.length_append]; rfl
            have hs4 := @skip_le T n (s3 + w) (by omega)
            have hg4 := skip_ge T n (s3 + w)
            have hrd := hrd _ rfl
            refine ⟨fun d4 => ?_, fun d4 => ?_⟩
            · have hdep : 17 ≤ d + upS wOne (fPa (F ++ [(kd, ty, g, rowL T s3 w)])) (nI F.length) := by
                rw [upS_at (hW.2.2.1.app m2.1 hg.ok) (by omega)]
                simp only [fPa, getD_new]
                have := upS_cg (w := wOne) (Q := fPa (F ++ [(kd, ty, g, rowL T s3 w)])) hW.2.2.1 (fun f hf => pa_old hf) hg.ok
                have this : upS wOne (fPa F) g = upS wOne (fun f => ((F ++ [(kd, ty, g, rowL T s3 w)]).getD f fd0).2.2.1) g := this
                rw [← this]
                show 17 ≤ d + (1 + _)
                omega
              refine s_wantSign xA.1 xA.2.2.2.2.1 xA.2.2.2.2.2.2.1 (by decide) (fun _ z2 z3 => ?_) (fun _ z => ?_) (fun z => absurd xA.2.2.2.2.2.1 z)
              · rw [if_pos ⟨z2, by rw [if_pos d4]; exact z3⟩, if_pos d4] at hrd
                refine s_in268 ih hp (f1.trans FrS.at16) (xA.go (by omega)) ?_ ?_ ⟨by omega, by simp only [fPa, getD_new]⟩ hdep (by omega) preF.app (by omega) ⟨1, fun d => runS_ok hr hrd⟩
                · rw [d4]
                  exact gIn_new hW m2.1 hg
                · refine ⟨fun y => nI_nm1 (by omega) y.2.1, fun y => y.2.2.2 ?_⟩
                  rw [hl', Nat.add_sub_cancel]
              · rw [if_neg (fun y => z ⟨y.1, by have := y.2; rw [if_pos d4] at this; exact this⟩)] at hrd
                refine ⟨1, ?_⟩
                show j_Mod_readField_268 post (wr_Mod_readField d) _ _ _ _ _ _ _
                unfold j_Mod_readField_268
                have hd1 : ∃ d', d = d' + 1 := by
                  have := m2.2.1 d4
                  exact ⟨d - 1, by omega⟩
                obtain ⟨d', rfl⟩ := hd1
                refine s_readField_ill (xA.go hs4).ill (nI_nm1 (by omega)) (Or.inr ⟨F.length, by omega, rfl⟩) ?_
                refine bn_f (fun y => absurd y (nI_nm1 (f := skip T n (s3 + w)) (by omega))) (hp _ ?_)
                rw [skip_skip]
                refine ⟨_, _, nI (skip T n (s3 + w)), ((f1.trans FrS.at16).trans FrS.at17).trans FrS.at16, (xA.go hs4).ill.go hs4, fun _ => ⟨1, fun d => ?_⟩, fun y => absurd y (nI_nm1 (by omega))⟩
                rw [runS_err hr (by omega) hrd]
            · refine s_wantSign xA.1 xA.2.2.2.2.1 xA.2.2.2.2.2.2.1 (by decide) (fun _ z2 z3 => hp _ ?_) (fun _ z => hp _ ?_) (fun z => absurd xA.2.2.2.2.2.1 z)
              · rw [if_pos ⟨z2, by rw [if_neg d4]; exact z3⟩, if_neg d4] at hrd
                refine ⟨_, skip T n (s3 + w) + 1, -1, f1.trans FrS.at16, xA.go (by omega), fun y => absurd rfl y, fun _ => ⟨by omega, gIn_same hW m2.1 hg, by omega, preF.app, ⟨1, fun d => runS_ok hr hrd⟩⟩⟩
              · rw [if_neg (fun y => z ⟨y.1, by have := y.2; rw [if_neg d4] at this; exact this⟩)] at hrd
                refine ⟨_, _, nI (skip T n (s3 + w)), (f1.trans FrS.at16).trans FrS.at17, (xA.go hs4).ill, fun _ => ⟨1, fun d => ?_⟩, fun y => absurd y (nI_nm1 (by omega))⟩
                rw [runS_err hr (by omega) hrd]
