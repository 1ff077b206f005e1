/-! the class opens a FILE: all of it -/
abbrev FrOC (qq aq : Nat) (x y : St) : Prop := Fg (fun a k => a = 97 ∨ a = 70 ∨ a = 96 ∨ a = 102 ∨ a = 104 ∨ (a = qq ∧ k = 0) ∨ (a = aq ∧ k = 0)) no2 no2 (fun a => 70 ≤ a ∧ a ≤ 105) (fun a => 85 ≤ a ∧ a ≤ 101) x y
section
variable {x y z : St} {T : Nat → Nat} {n qq aq : Nat}
theorem FrFm.oc (f : FrFm x y) : FrOC qq aq x y := f.mono (fun o k z => by omega) (fun _ _ z => z) (fun _ _ z => z) (fun a z => by omega) (fun a z => z.elim)
theorem FrFC.oc (f : FrFC x y) : FrOC qq aq x y := f.mono (fun o k z => by omega) (fun _ _ z => z) (fun _ _ z => z) (fun a z => by omega) (fun a z => by have : a = 99 := z; omega)
theorem FrLC.oc (f : FrLC x y) : FrOC qq aq x y := f.1.mono (fun o k z => by omega) (fun _ _ z => z) (fun _ _ z => z) (fun a z => by omega) (fun a z => by omega)
theorem emG_col {F : List SFd} (hw : WfS F) (h : F ≠ []) (he : ¬ emG F) : 0 < ncol F := by
  have l : 0 < F.length := List.length_pos_iff.mpr h
  have t : fTy F (F.length - 1) ≠ 4 := fun z => he ⟨F.length - 1, by omega, z, fun w => by obtain ⟨g, g1, g2, -⟩ := w; omega⟩
  rcases Nat.eq_zero_or_pos (ncol F) with c | c
  · have := cB_lt (F := F) (f := F.length - 1) hw (by omega) t
    omega
  · exact c
theorem k_open {post : Int32 → St → Prop} {q o fs : Nat} (hL : LC x) (h10 : fR x 0 10 = some qq) (h12 : fR x 0 12 = some aq) (hqq : qq = 106 ∨ qq = 117) (haq : aq = 128 ∨ aq = 137) (h2 : fR x 0 2 = some fs) (hfs : SnkId fs) (hr : fR x fs 0 = some q) (hq : skRow q) (hc : fI x fs 1 = nI n) (hqn : n ≤ fN x q) (hq31 : fN x q < 2 ^ 31) (hn : n ≤ 40000) (hT : ∀ i, T i < 256) (hb : ∀ i, i < n → fA x q i = (nI (T i)).toInt8.toInt32) (h3 : fI x 96 3 = nI o) (ho : o ≤ 100)
    (pw : o = 100 → ∀ y, FrOC qq aq x y → fI y 96 3 = nI o → (∀ k, k < 3 → fA y 98 k = -1) → fI y 97 0 = 0 → fI y qq 0 = 0 → fI y aq 0 = 0 → post 23 y)
    (pe : o < 100 → ∀ e g c k y, opO T n = .error (e, g, c, k) → 0 < e → e < 100 → FrOC qq aq x y → fI y 96 3 = nI (o + 1) → fA y 98 0 = g → fA y 98 1 = c → fA y 98 2 = k → fI y 97 0 = 0 → fI y qq 0 = 0 → fI y aq 0 = 0 → post (nI e) y)
    (pk : o < 100 → ∀ F rows G K CK y, opO T n = .ok (F, rows, G, K, CK) → FrOC qq aq x y → OpC y F rows G K CK → F ≠ [] → ¬ emG F → rows = smN G → fI y 96 3 = nI (o + 1) → (∀ k, k < 3 → fA y 98 k = -1) → fI y 97 0 = 1 → fI y qq 0 = 0 → fI y aq 0 = 0 → post 0 y) : wp_V_open post 0 x := by
  have nqa : qq ≠ 97 ∧ qq ≠ 96 ∧ qq ≠ 102 ∧ qq ≠ 104 ∧ qq ≠ 70 ∧ qq ≠ aq := by omega
  have naq : aq ≠ 97 ∧ aq ≠ 96 ∧ aq ≠ 102 ∧ aq ≠ 104 ∧ aq ≠ 70 := by omega
  have nfs : fs ≠ 97 ∧ fs ≠ qq ∧ fs ≠ aq := by
    unfold SnkId at hfs
    omega
  have nq : q ≠ 82 ∧ q ≠ 98 := by
    unfold skRow at hq
    omega
  unfold wp_V_open
  rw [show stC 0 8 = 97 from rfl, show stC 0 9 = 96 from rfl]
  refine nm_e ⟨qq, h10, nm_e ⟨aq, h12, nm_e ⟨fs, h2, q, hr, fs, h2, ?_⟩⟩⟩
  have fv : FrOC qq aq x (setI (setI (setI x 97 0 0) qq 0 0) aq 0 0) := Fg.trans (Fg.trans (Fg.i (Or.inl rfl)) (Fg.i (by show _ ∨ _; omega))) (Fg.i (by show _ ∨ _; omega))
  have v0 : fI (setI (setI (setI x 97 0 0) qq 0 0) aq 0 0) 97 0 = 0 := (gI_no (fun z => naq.1 z.symm)).trans ((gI_no (fun z => nqa.1 z.symm)).trans gI_at)
  have vq : fI (setI (setI (setI x 97 0 0) qq 0 0) aq 0 0) qq 0 = 0 := (gI_no nqa.2.2.2.2.2).trans gI_at
  have va : fI (setI (setI (setI x 97 0 0) qq 0 0) aq 0 0) aq 0 = 0 := gI_at
  have v3 : fI (setI (setI (setI x 97 0 0) qq 0 0) aq 0 0) 96 3 = nI o := (gI_no (fun z => naq.2.1 z.symm)).trans ((gI_no (fun z => nqa.2.1 z.symm)).trans ((gI_no (by decide)).trans h3))
  have vc : fI (setI (setI (setI x 97 0 0) qq 0 0) aq 0 0) fs 1 = nI n := (gI_no nfs.2.2).trans ((gI_no nfs.2.1).trans ((gI_no nfs.1).trans hc))
  have vA : fA (setI (setI (setI x 97 0 0) qq 0 0) aq 0 0) q = fA x q := rfl
  have vN : ∀ r, fN (setI (setI (setI x 97 0 0) qq 0 0) aq 0 0) r = fN x r := fun _ => rfl
  generalize setI (setI (setI x 97 0 0) qq 0 0) aq 0 0 = v at *
  rw [vc]
  -- three fields that stay
  have keep : ∀ {u w : St}, (FrFm u w ∨ FrFC u w ∨ FrLC u w) → fI u 97 0 = 0 → fI u qq 0 = 0 → fI u aq 0 = 0 → fI w 97 0 = 0 ∧ fI w qq 0 = 0 ∧ fI w aq 0 = 0 := fun f a b c => by
    rcases f with f | f | f
    · exact ⟨(f.ii (by decide)).trans a, (f.ii (by omega)).trans b, (f.ii (by omega)).trans c⟩
    · exact ⟨(f.ii (by decide)).trans a, (f.ii (by omega)).trans b, (f.ii (by omega)).trans c⟩
    · exact ⟨(f.1.ii (by decide)).trans a, (f.1.ii (by omega)).trans b, (f.1.ii (by omega)).trans c⟩
  -- the end
  have fin0 : ∀ (e : Nat) (w : St), 0 < e → e < 100 → fI w 97 0 = 0 → post (nI e) w → j_V_open_70 post 0 (nI e) w := fun e w e1 e2 e3 e4 => by
    unfold j_V_open_70 j_V_open_83
    refine bn_f (fun z => by have := nI_inj (b := 0) (by omega) (by decide) z; omega) ⟨rfl, rfl, nm_e ?_⟩
    rw [show stC 0 8 = 97 from rfl, setI_self e3]
    exact e4
  refine k_frame (fun r hr => (vN r).trans (hL r hr)) nq.1 nq.2 (by rw [vN]; exact hqn) (by rw [vN]; exact hq31) hn hT (fun i hi => by rw [vA]; exact hb i hi) v3 ho (fun e y y1 y2 y3 => ?_) (fun c100 e y er e1 e2 y1 y2 y3 => ?_) (fun c100 fr y er y1 y2 y3 Sy2 Sy4 n16 => bn_t rfl ?_)
  · obtain ⟨k1, k2, k3⟩ := keep (Or.inl y1) v0 vq va
    refine bn_f (by decide) ?_
    unfold j_V_open_58
    exact bn_f (by decide) (fin0 23 y (by decide) (by decide) k1 (pw e y (Fg.trans fv (FrFm.oc y1)) y2 y3 k1 k2 k3))
  · obtain ⟨k1, k2, k3⟩ := keep (Or.inl y1) v0 vq va
    have ne : ¬ nI e = 0 := fun z => by have := nI_inj (b := 0) (by omega) (by decide) z; omega
    refine bn_f ne ?_
    unfold j_V_open_58
    exact bn_f ne (fin0 e y e1 e2 k1 (pe c100 e (-1) (-1) (-1) y (by unfold opO; rw [er]) e1 e2 (Fg.trans fv (FrFm.oc y1)) y2 (y3 0 (by decide)) (y3 1 (by decide)) (y3 2 (by decide)) k1 k2 k3))
  obtain ⟨k1, k2, k3⟩ := keep (Or.inl y1) v0 vq va
  have hS4 := Sy4.le
  refine k_footer Sy2 Sy4.hp Sy4.hs hS4.1 (by omega) (fun e z z1 z2 z3 => ?_) (fun F rows G K q2 q3 z z1 zg zq zq2 z2 zf zs Rz Fz Fne Fem z971 z972 z5 zr zG zsm zb => ?_)
  · obtain ⟨m1, m2, m3⟩ := keep (Or.inr (Or.inl z2)) k1 k2 k3
    have ne : ¬ nI e = 0 := by rw [← z3.1]; exact z3.ne
    unfold j_V_open_58
    refine bn_f ne (fin0 e z z3.2.1 z3.2.2 m1 (pe c100 e (-1) (-1) (-1) z (by unfold opO; rw [er, z1]) z3.2.1 z3.2.2 (Fg.trans (Fg.trans fv (FrFm.oc y1)) (FrFC.oc z2)) ((z2.ii (by decide)).trans y2) ?_ ?_ ?_ m1 m2 m3))
    · rw [z2.aa (by decide)]; exact y3 0 (by decide)
    · rw [z2.aa (by decide)]; exact y3 1 (by decide)
    · rw [z2.aa (by decide)]; exact y3 2 (by decide)
  obtain ⟨m1, m2, m3⟩ := keep (Or.inr (Or.inl z2)) k1 k2 k3
  have Fz4 : FiC z T n := Fg.fic z2 (by decide) Sy4.1
  have Sz4 : Sr 104 z T n 4 fr := ⟨Fz4, (z2.ii (by decide)).trans Sy4.h0, (z2.ii (by decide)).trans Sy4.hp, (z2.ii (by decide)).trans Sy4.hs, hS4.1, hS4.2.1⟩
  obtain ⟨-, -, -, kl, gb, gb2⟩ := gpsO_pre hT _ _ _ _ _ _ _ zg zq2
  have kl : K.length = ncol F * G.length := by rw [kl]; show 0 + _ = _; omega
  unfold j_V_open_58
  rw [show stC 0 9 = 96 from rfl]
  refine bn_t rfl (k_chunks Sz4 ⟨Fz4, zf, zs⟩ z5 zq2 Fz Rz (emG_col Fz Fne Fem) zG z971 z972 zg (by omega) (by omega) (fun t w w1 w2 w3 w4 w5 w6 => ?_) (fun CK qe w w1 w2 Ow w3 => ?_))
  · obtain ⟨e, g, c, k⟩ := t
    obtain ⟨r1, r2, r3⟩ := keep (Or.inr (Or.inr w2)) m1 m2 m3
    exact fin0 e w w3.2.1 w3.2.2 r1 (pe c100 e g c k w (by unfold opO; rw [er, z1]; simp only; rw [w1]) w3.2.1 w3.2.2 (Fg.trans (Fg.trans (Fg.trans fv (FrFm.oc y1)) (FrFC.oc z2)) (FrLC.oc w2)) ((w2.1.ii (by decide)).trans ((z2.ii (by decide)).trans y2)) w4 w5 w6 r1 r2 r3)
  · obtain ⟨r1, r2, r3⟩ := keep (Or.inr (Or.inr w2)) m1 m2 m3
    unfold j_V_open_70 j_V_open_83
    rw [show stC 0 8 = 97 from rfl]
    refine bn_t rfl ⟨rfl, rfl, nm_e ?_⟩
    have fu : Fg (fun a k => a = 97 ∧ k = 0) no2 no2 no1 no1 w (setI w 97 0 1) := Fg.i ⟨rfl, rfl⟩
    refine pk c100 F rows G K CK _ (by unfold opO; rw [er, z1]; simp only; rw [w1]) (Fg.trans (Fg.trans (Fg.trans (Fg.trans fv (FrFm.oc y1)) (FrFC.oc z2)) (FrLC.oc w2)) (Fg.i (Or.inl rfl))) ?_ Fne Fem zsm.symm ((fu.ii (by decide)).trans ((w2.1.ii (by decide)).trans ((z2.ii (by decide)).trans y2))) (fun k hk => w3 k hk) gI_at ((fu.ii (by omega)).trans r2) ((fu.ii (by omega)).trans r3)
    obtain ⟨o1, o2, o3, o4, o5, o6, o7, o8, o9, o10, o11, o12, o13, o14, b, dE, o15, o16, o17, o18⟩ := Ow
    exact ⟨o1.cg7 (fu.ii (by decide)) (fu.ii (by decide)) (fun r _ _ => fu.aa id), o2, (fu.ii (by decide)).trans o3, (fu.ii (by decide)).trans o4, fun h hh => by rw [fu.aa id]; exact o5 h hh, o6, o7, o8, o9, o10, o11, o12, o13, by rw [fu.aa id]; exact o14, b, dE, o15.fr fu (by decide) (by decide) (by decide) (by decide) id (fun i _ => by rw [fu.aa id]) id id, o16.fr fu (fun r z => z.elim) (fun _ => id), (fu.ii (by decide)).trans o17, (fu.ii (by decide)).trans o18⟩
end
