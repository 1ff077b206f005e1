/-! the Opener reads a schema -/
section
variable {x y z : St} {T : Nat → Nat} {n st p b : Nat} {F : List SFd}
theorem emp_iff {f : Nat} (hw : WfS F) (hf : f < F.length) : pst (fPa F) f F.length = f + 1 ↔ ¬ ∃ g, g < F.length ∧ f < g ∧ fPa F g = nI f := by
  constructor
  · rintro h ⟨g, g1, g2, g3⟩
    have := pst_child hw g1 g3 g2
    omega
  · intro h
    rcases pst_top (P := fPa F) (f := f) F.length with e | ⟨v, v1, v2, v3⟩
    · exact e
    · by_cases ev : v = f
      · rw [v2, ev]
      · obtain ⟨w, w1, w2, w3⟩ := chd_of hw v v1 v3 ev
        exact absurd ⟨w, w1, w3, w2⟩ h
theorem k_emp {post : Int32 → St → Prop} {f : Nat} (hL : LC x) (hw : WfS F) (hR : RepC x 70 F) (hf : f < F.length) (p1 : (fTy F f = 4 ∧ ¬ ∃ g, g < F.length ∧ f < g ∧ fPa F g = nI f) → post 1 x) (p0 : ¬ (fTy F f = 4 ∧ ¬ ∃ g, g < F.length ∧ f < g ∧ fPa F g = nI f) → post 0 x) : wp_Sch_isEmptyGroup post 70 (nI f) x := by
  have h128 := hw.1
  obtain ⟨-, g3, -, -, -, -, g8, -⟩ := hR.2.2.2.1 f hf
  unfold wp_Sch_isEmptyGroup j_Sch_isEmptyGroup_26
  rw [show stC 70 3 = 72 from rfl, show stC 70 8 = 77 from rfl, show fN x 72 = 128 from hL 72 (by decide), show fN x 77 = 128 from hL 77 (by decide), rA_nI (by omega), rA_nI (by omega), show fA x 72 f = fTy F f from g3, show fA x 77 f = nI (pst (fPa F) f F.length) from g8, nI_1]
  refine ⟨vp_in_nI (by omega) (by decide), ?_⟩
  have pl := pst_le (P := fPa F) (f := f) hf
  by_cases c4 : fTy F f = 4
  · refine bn_t c4 ⟨vp_in_nI (by omega) (by decide), ?_⟩
    by_cases ce : pst (fPa F) f F.length = f + 1
    · exact bn_t (by rw [ce]) (p1 ⟨c4, (emp_iff hw hf).mp ce⟩)
    · exact bn_f (fun z => ce (nI_inj (by omega) (by omega) z)) (p0 (fun z => ce ((emp_iff hw hf).mpr z.2)))
  · exact bn_f c4 (p0 (fun z => c4 z.1))
theorem RepC_nil (h0 : fI x 70 0 = 0) (h1 : fI x 70 1 = 0) : RepC x 70 [] := ⟨h0, h1, fun f hf => absurd hf (Nat.not_lt_zero _), fun f hf => absurd hf (Nat.not_lt_zero _), fun f hf => absurd hf (Nat.not_lt_zero _)⟩
/-- no group is empty -/
theorem k_schE {post : St → Prop} {l2 : Int64} (hL : LC x) (hw : WfS F) (hR : RepC x 70 F) (h : (∃ e, FlC 102 x e ∧ ∀ y, FrSr 102 x y → FlC 102 y e → post y) ∨ ∃ q, Sr 102 x T n q st ∧ (∀ y, emG F → FrSr 102 x y → FlC 102 y 15 → post y) ∧ (¬ emG F → post x)) : ∃ nn, wl_Opn_readSchema_79 post nn 96 70 l2 0 x := by
  have h128 := hw.1
  refine lp_Opn_readSchema_79 (fun a0 a1 a2 a3 y => 96 = a0 ∧ 70 = a1 ∧ FrSr 102 x y ∧ ∃ f, nI f = a3 ∧ f ≤ F.length ∧ ((∃ e, FlC 102 y e ∧ post y) ∨ ∃ q, x = y ∧ Sr 102 x T n q st ∧ (∀ y, emG F → FrSr 102 x y → FlC 102 y 15 → post y) ∧ (¬ emG F → post x) ∧ ∀ k, k < f → ¬ (fTy F k = 4 ∧ ¬ ∃ g, g < F.length ∧ k < g ∧ fPa F g = nI k))) (fun _ _ _ a3 _ => F.length - a3.toNatClampNeg) ?_ _ _ _ _ _ ⟨rfl, rfl, Fg.refl x, 0, rfl, Nat.zero_le _, ?_⟩
  · rintro Q a0 a1 a2 a3 y ⟨rfl, rfl, y1, f, rfl, f1, h⟩ ih
    have Ry : RepC y 70 F := hR.cg7 (y1.ii (by decide)) (y1.ii (by decide)) (fun r _ _ => y1.aa id)
    have Ly : LC y := fun r hr => (y1.len r).trans (hL r hr)
    unfold j_Opn_readSchema_79 j_Opn_readSchema_106
    rw [Ry.1, show stC 96 1 = 102 from rfl]
    by_cases cf : f < F.length
    · refine br_f (by (first | omega | (simp (disch := omega) only [Int32.le_iff_toInt_le, Int32.lt_iff_toInt_lt, z_eq, z_in, nI_toInt, z_cl, z_m1, z_sg, z_255, Int32.reduceToInt] <;> omega) | (simp only [Int32.le_iff_toInt_le, Int32.lt_iff_toInt_lt, z_eq, z_in, z_add, z_sub, z_mul, z_neg, z_nI, z_cl, z_sg, z_255, z_lit, Int32.reduceToInt] <;> omega))) ?_
      have nx : ∀ u, FrSr 102 x u → ((∃ e, FlC 102 u e ∧ post u) ∨ ∃ q, x = u ∧ Sr 102 x T n q st ∧ (∀ y, emG F → FrSr 102 x y → FlC 102 y 15 → post y) ∧ (¬ emG F → post x) ∧ ∀ k, k < f + 1 → ¬ (fTy F k = 4 ∧ ¬ ∃ g, g < F.length ∧ k < g ∧ fPa F g = nI k)) → Q 96 70 a2 (nI f + 1) u := fun u u1 u2 => by
        rw [nI_1]
        exact ih _ _ _ _ _ ⟨rfl, rfl, u1, f + 1, rfl, cf, u2⟩ (by rw [nI_clamp (by omega), nI_clamp (by omega)]; omega)
      rcases h with ⟨e, e1, e2⟩ | ⟨q, rfl, S, h1, h2, h3⟩
      · exact k_emp Ly hw Ry cf (fun _ => bn_f (by decide) (k_ckf e1.ne (nx y y1 (Or.inl ⟨e, e1, e2⟩)))) (fun _ => bn_t rfl (k_ckf e1.ne (nx y y1 (Or.inl ⟨e, e1, e2⟩))))
      · refine k_emp Ly hw Ry cf (fun c => bn_f (by decide) (r_ck0 15 S (by decide) (by decide) (fun u u1 u2 => nx u u1 (Or.inl ⟨15, u2, h1 u ⟨f, cf, c.1, c.2⟩ u1 u2⟩)))) (fun c => bn_t rfl (k_ck1 (nx x y1 (Or.inr ⟨q, rfl, S, h1, h2, fun k hk => ?_⟩))))
        by_cases ek : k = f
        · rw [ek]; exact c
        · exact h3 k (by omega)
    · refine br_t (by (first | omega | (simp (disch := omega) only [Int32.le_iff_toInt_le, Int32.lt_iff_toInt_lt, z_eq, z_in, nI_toInt, z_cl, z_m1, z_sg, z_255, Int32.reduceToInt] <;> omega) | (simp only [Int32.le_iff_toInt_le, Int32.lt_iff_toInt_lt, z_eq, z_in, z_add, z_sub, z_mul, z_neg, z_nI, z_cl, z_sg, z_255, z_lit, Int32.reduceToInt] <;> omega))) ?_
      rcases h with ⟨e, e1, e2⟩ | ⟨q, rfl, S, h1, h2, h3⟩
      · exact e2
      · exact h2 (fun z => by obtain ⟨k, k1, k2, k3⟩ := z; exact h3 k (by omega) ⟨k2, k3⟩)
  · rcases h with ⟨e, e1, e2⟩ | ⟨q, S, h1, h2⟩
    · exact Or.inl ⟨e, e1, e2 x (Fg.refl x) e1⟩
    · exact Or.inr ⟨q, rfl, S, h1, h2, fun k hk => absurd hk (Nat.not_lt_zero _)⟩
theorem k_schema {post : St → Prop} (S : Sr 102 x T n p st)
    (pe : ∀ e y, scO T st p = .error e → FrFd x y → FlC 102 y e → post y)
    (pk : ∀ F q y, scO T st p = .ok (F, q) → FrFd x y → Sr 102 y T n q st → RepC y 70 F → WfS F → F ≠ [] → ¬ emG F → post y) : wp_Opn_readSchema post 96 70 x := by
  have hS := S.le
  unfold wp_Opn_readSchema wp_Sch_forget
  rw [show stC 96 1 = 102 from rfl]
  refine nm_e (nm_e ?_)
  have fv : FrFd x (setI (setI x 70 0 0) 70 1 0) := Fg.trans (Fg.i (Or.inr rfl)) (Fg.i (Or.inr rfl))
  have Rv : RepC (setI (setI x 70 0 0) 70 1 0) 70 [] := RepC_nil ((gI_ne (by decide)).trans gI_at) gI_at
  have Sv : Sr 102 (setI (setI x 70 0 0) 70 1 0) T n p st := (S.i (by decide)).i (by decide)
  generalize setI (setI x 70 0 0) 70 1 0 = v at *
  -- in a fault
  have fall : ∀ e u l2 F, scO T st p = .error e → FrFd x u → FlC 102 u e → WfS F → RepC u 70 F → ∃ nn, wl_Opn_readSchema_79 post nn 96 70 l2 0 u := fun e u l2 F h1 h2 h3 h4 h5 => k_schE (T := T) (n := n) (st := st) (fun r hr => (h2.len r).trans (S.1.1 r hr)) h4 h5 (Or.inl ⟨e, h3, fun w w1 w2 => pe e w h1 (Fg.trans h2 (FrSr.fd w1)) w2⟩)
  have f45 : ∀ e u l2 F l4, scO T st p = .error e → FrFd x u → FlC 102 u e → WfS F → RepC u 70 F → ∀ Q, j_Opn_readSchema_45 post Q 96 70 l2 l4 u := fun e u l2 F l4 h1 h2 h3 h4 h5 Q => by
    unfold j_Opn_readSchema_45 j_Opn_readSchema_76
    exact ⟨fun _ => fall e u _ F h1 h2 h3 h4 h5, fun _ => ⟨fun _ => fall e u _ F h1 h2 h3 h4 h5, fun w => absurd w h3.ne⟩⟩
  have f37 : ∀ e u l2 s0, scO T st p = .error e → FrFd x u → FlC 102 u e → RepC u 70 [] → j_Opn_readSchema_37 post 96 70 l2 s0 102 u := fun e u l2 s0 h1 h2 h3 h5 => by
    unfold j_Opn_readSchema_37
    refine k_ckf h3.ne ⟨1, ?_⟩
    unfold wl_Opn_readSchema_45
    exact f45 e u _ [] _ h1 h2 h3 WfS_nil h5 _
  have rep : ∀ {u v : St} {F : List SFd}, FrSr 102 u v → RepC u 70 F → RepC v 70 F := fun f h => h.cg7 (f.ii (by decide)) (f.ii (by decide)) (fun r _ _ => f.aa id)
  have bad15 : ∀ u l2 q, scO T st p = .error 15 → FrFd x u → Sr 102 u T n q st → RepC u 70 [] → j_Opn_readSchema_36 post 96 70 l2 102 u := fun u l2 q h1 h2 h3 h4 => by
    unfold j_Opn_readSchema_36 j_Opn_readSchema_37
    refine r_ck0 15 h3 (by decide) (by decide) (fun w w1 w2 => ⟨1, ?_⟩)
    unfold wl_Opn_readSchema_45
    exact f45 15 w _ [] _ h1 (Fg.trans h2 (FrSr.fd w1)) w2 WfS_nil (rep w1 h4) _
  refine r_vrd so2 Sv (fun e u u1 u2 u3 => ?_) (fun m q u u1 u2 Su v1 v2 => ?_)
  · have er : scO T st p = .error e := by unfold scO nm4; rw [u1]
    have fu : FrFd x u := Fg.trans fv (FrSr.fd u2)
    unfold j_Opn_readSchema_36
    exact ⟨fun _ => f37 e u _ _ er fu u3 (rep u2 Rv), fun _ => k_wany (fun b => ⟨fun _ => f37 e u _ _ er fu u3 (rep u2 Rv), fun _ => f37 e u _ _ er fu u3 (rep u2 Rv)⟩)⟩
  have fu : FrFd x u := Fg.trans fv (FrSr.fd u2)
  have Ru := rep u2 Rv
  have er : scO T st p = (if 128 < m then .error 15 else if m = 0 then .error 15 else match fdsO T st m [] q with
    | .error e => .error e
    | .ok (F, q1) => if emG F then .error 15 else .ok (F, q1)) := by
    unfold scO nm4; rw [u1]; simp only
    by_cases c : 128 < m
    · rw [if_pos c, if_pos c]
    · rw [if_neg c, if_neg c]
      rfl
  rw [lg_cmp_eq, show (0 : Int64) = lN 0 from rfl, show (128 : Int64) = lN 128 from rfl]
  by_cases c0 : m = 0
  · refine br_t (by rw [c0]) (bad15 u _ q ?_ fu Su Ru)
    rw [er, if_neg (by omega), if_pos c0]
  refine br_f (fun z => c0 (lN_inj v1 (by decide) z)) (k_within v1 (by decide) (fun cm => br_f (by decide) ?_) (fun cm => br_t rfl (bad15 u _ q (by rw [er, if_pos cm]) fu Su Ru)))
  rw [if_neg (by omega), if_neg c0] at er
  unfold j_Opn_readSchema_37
  refine k_ck1 ?_
  refine lp_Opn_readSchema_45 (fun a0 a1 a2 a3 w => 96 = a0 ∧ 70 = a1 ∧ lN m = a2 ∧ FrFd x w ∧ ∃ f F, nI f = a3 ∧ f ≤ m + 1 ∧ WfS F ∧ RepC w 70 F ∧ ((∃ e, FlC 102 w e ∧ scO T st p = .error e) ∨ ∃ q', f ≤ m ∧ F.length = f ∧ Sr 102 w T n q' st ∧ fdsO T st m [] q = fdsO T st (m - f) F q')) (fun _ _ _ a3 _ => m + 1 - a3.toNatClampNeg) ?_ _ _ _ _ _ ⟨rfl, rfl, rfl, fu, 0, [], rfl, Nat.zero_le _, WfS_nil, Ru, Or.inr ⟨q, Nat.zero_le _, rfl, Su, rfl⟩⟩
  rintro Q a0 a1 a2 a3 w ⟨rfl, rfl, rfl, w1, f, F, rfl, f1, Fw, Rw, h⟩ ih
  rcases h with ⟨e, e1, e2⟩ | ⟨q', f2, lF, Sw, h⟩
  · exact f45 e w _ F _ e2 w1 e1 Fw Rw Q
  unfold j_Opn_readSchema_45
  rw [show stC 96 1 = 102 from rfl, show (nI f).toInt64 = lN f from nI_l (by omega), lg_cmp_ge, lN_le2 (by omega) (by omega)]
  by_cases cf : f < m
  · refine br_f (by omega) (bn_t Sw.h0 ?_)
    obtain ⟨d, hd⟩ : ∃ d, m - f = d + 1 := ⟨m - f - 1, by omega⟩
    rw [hd] at h
    have hs : fdsO T st (d + 1) F q' = (match fdO T F st q' with | .error e => .error e | .ok (F', q) => fdsO T st d F' q) := rfl
    rw [← lF, nI_1]
    refine k_field Sw Fw Rw (fun e s s1 s2 s3 s4 => ?_) (fun F' q2 s s1 s2 Ss s3 s4 s5 => ?_)
    · refine ih _ _ _ _ _ ⟨rfl, rfl, rfl, Fg.trans w1 s2, F.length + 1, F, rfl, by omega, Fw, s4, Or.inl ⟨e, s3, ?_⟩⟩ (by rw [lF, nI_clamp (by omega), nI_clamp (by omega)]; omega)
      rw [er, h, hs, s1]
    · refine ih _ _ _ _ _ ⟨rfl, rfl, rfl, Fg.trans w1 s2, F.length + 1, F', rfl, by omega, s4, s3, Or.inr ⟨q2, by omega, s5, Ss, ?_⟩⟩ (by rw [lF, nI_clamp (by omega), nI_clamp (by omega)]; omega)
      rw [h, hs, s1, show m - (F.length + 1) = d by omega]
  · have ef : f = m := by omega
    refine br_t (by omega) ?_
    rw [ef, Nat.sub_self] at h
    rw [h] at er
    have er : scO T st p = (if emG F then .error 15 else .ok (F, q')) := er
    unfold j_Opn_readSchema_76
    refine k_schE (T := T) (n := n) (st := st) Sw.1.1 Fw Rw (Or.inr ⟨q', Sw, fun s c s1 s2 => pe 15 s (by rw [er, if_pos c]) (Fg.trans w1 (FrSr.fd s1)) s2, fun c => pk F q' w (by rw [er, if_neg c]) w1 Sw Rw Fw (fun z => c0 ?_) c⟩)
    rw [z] at lF
    have : 0 = f := lF
    omega
end
