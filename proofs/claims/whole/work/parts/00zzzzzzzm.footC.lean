/-! the Opener looks at the footer -/
abbrev FrFC (x y : St) : Prop := Fg (fun a k => a = 102 ∧ (k = 1 ∨ k = 3) ∨ a = 70 ∨ a = 96 ∧ k = 5 ∨ a = 97 ∧ (k = 1 ∨ k = 2)) no2 no2 (fun a => 71 ≤ a ∧ a ≤ 81) (fun a => a = 99) x y
def b40 (K : List ChT) : Nat := smN (K.map (fun t => if t.1 ≤ 40000 then t.1 else 40000))
theorem b40_add {K : List ChT} {t : ChT} : b40 (K ++ [t]) = b40 K + (if t.1 ≤ 40000 then t.1 else 40000) := by
  unfold b40
  rw [List.map_append]
  exact smN_add
theorem b40_le (K : List ChT) : b40 K ≤ 40000 * K.length := by
  induction K with
  | nil => exact Nat.le_refl _
  | cons t K ih =>
    show (if t.1 ≤ 40000 then t.1 else 40000) + b40 K ≤ 40000 * (K.length + 1)
    split <;> omega
theorem b40_iff {K : List ChT} {m : Nat} (hm : m < 40000) : b40 K = m ↔ bsm K = m := by
  have key : (∀ t, t ∈ K → t.1 ≤ 40000) ∧ b40 K = bsm K ∨ 40000 ≤ b40 K ∧ 40000 ≤ bsm K := by
    induction K with
    | nil => exact Or.inl ⟨fun t ht => absurd ht (by simp), rfl⟩
    | cons t K ih =>
      have e1 : b40 (t :: K) = (if t.1 ≤ 40000 then t.1 else 40000) + b40 K := rfl
      have e2 : bsm (t :: K) = clp t.1 + bsm K := rfl
      unfold clp at e2
      by_cases c : t.1 ≤ 40000
      · rw [if_pos c] at e1 e2
        rcases ih with ⟨h1, h2⟩ | ⟨h1, h2⟩
        · refine Or.inl ⟨fun s hs => ?_, by omega⟩
          rcases List.mem_cons.mp hs with z | z
          · rw [z]; exact c
          · exact h1 s z
        · exact Or.inr ⟨by omega, by omega⟩
      · rw [if_neg c] at e1 e2
        exact Or.inr ⟨by omega, by omega⟩
  rcases key with ⟨-, h⟩ | ⟨h1, h2⟩
  · rw [h]
  · omega
theorem fdO_le {T : Nat → Nat} {F F' : List SFd} {st p q : Nat} (hT : ∀ i, T i < 256) (h : fdO T F st p = .ok (F', q)) : p ≤ q ∧ q ≤ st := by
  unfold fdO at h
  split at h
  · cases h
  rename_i k q0 e0
  split at h
  · cases h
  rename_i g q1 e1
  split at h
  · cases h
  rename_i m q2 e2
  have o1 := vrd_ok hT e1
  have o2 := vrd_ok hT e2
  have o0 : p ≤ q0 := by
    unfold fxd at e0
    split at e0
    · cases e0
    simp only [Except.ok.injEq, Prod.mk.injEq] at e0
    omega
  split at h
  · cases h
  split at h
  · cases h
  split at h
  · cases h
  simp only [Except.ok.injEq, Prod.mk.injEq] at h
  omega
theorem fdsO_le {T : Nat → Nat} {st : Nat} (hT : ∀ i, T i < 256) : ∀ d F p F' q, fdsO T st d F p = .ok (F', q) → p ≤ q := by
  intro d
  induction d with
  | zero =>
    intro F p F' q h
    simp only [fdsO, Except.ok.injEq, Prod.mk.injEq] at h
    omega
  | succ d ih =>
    intro F p F' q h
    simp only [fdsO] at h
    split at h
    · cases h
    rename_i F1 q1 e1
    have := fdO_le hT e1
    have := ih _ _ _ _ h
    omega
theorem scO_le {T : Nat → Nat} {F : List SFd} {st p q : Nat} (hT : ∀ i, T i < 256) (h : scO T st p = .ok (F, q)) : p ≤ q := by
  unfold scO at h
  split at h
  · cases h
  rename_i m q0 e0
  have o0 := nm4_ok hT e0
  split at h
  · cases h
  split at h
  · cases h
  rename_i F1 q1 e1
  have := fdsO_le hT _ _ _ _ _ e1
  split at h
  · cases h
  simp only [Except.ok.injEq, Prod.mk.injEq] at h
  omega
section
variable {x y z : St} {T : Nat → Nat} {n st p b : Nat} {F : List SFd}
theorem FrFd.fc (f : FrFd x y) : FrFC x y := f.mono (fun _ _ z => by omega) (fun _ _ z => z) (fun _ _ z => z) (fun _ z => z) (fun _ z => z.elim)
theorem FrSr.fc (f : FrSr 102 x y) : FrFC x y := FrFd.fc (FrSr.fd f)
theorem FrTC.fc (f : FrTC x y) : FrFC x y := f.mono (fun _ _ z => Or.inl z) (fun _ _ z => z) (fun _ _ z => z) (fun _ z => z.elim) (fun _ z => z)
theorem gpsO_nz (hT : ∀ i, T i < 256) : ∀ d G K p G' K' q, gpsO T F st d G K p = .ok ((G', K'), q) → (∀ v, v ∈ G → 0 < v ∧ v ≤ 2000) → ∀ v, v ∈ G' → 0 < v ∧ v ≤ 2000 := by
  intro d
  induction d with
  | zero =>
    intro G K p G' K' q h hG
    simp only [gpsO, Except.ok.injEq, Prod.mk.injEq] at h
    rw [← h.1.1]
    exact hG
  | succ d ih =>
    intro G K p G' K' q h hG
    simp only [gpsO] at h
    split at h
    · cases h
    rename_i r q1 e1
    have o1 := nm4_ok hT e1
    split at h
    · cases h
    rename_i c0
    split at h
    · cases h
    refine ih _ _ _ _ _ _ h (fun v hv => ?_)
    rcases List.mem_append.mp hv with z | z
    · exact hG v z
    · rw [List.mem_singleton.mp z]; omega
theorem smN_bd : ∀ G : List Nat, (∀ v, v ∈ G → v ≤ 2000) → smN G ≤ 2000 * G.length := by
  intro G
  induction G with
  | nil => intro _; exact Nat.le_refl _
  | cons a G ih =>
    intro h
    have h1 := h a (List.mem_cons_self ..)
    have h2 := ih (fun v hv => h v (List.mem_cons_of_mem _ hv))
    show a + smN G ≤ 2000 * (G.length + 1)
    omega
theorem k_footer {post : Int32 → St → Prop} {fr : Nat} (S : Sr 102 x T n fr (n - 12)) (h1 : fI x 104 1 = 4) (h2 : fI x 104 2 = nI fr) (h4 : 4 ≤ fr) (hn12 : 12 ≤ n)
    (pe : ∀ e y, ftO2 T n fr = .error e → FrFC x y → FlC 102 y e → post (nI e) y)
    (pk : ∀ F rows G K q2 q3 y, ftO2 T n fr = .ok (F, rows, G, K) → gpsO T F (n - 12) G.length [] [] q2 = .ok ((G, K), q3) → fr ≤ q2 → q2 ≤ n - 12 → FrFC x y → fI y 102 3 = 0 → fI y 102 2 = nI (n - 12) → RepC y 70 F → WfS F → F ≠ [] → ¬ emG F → fI y 97 1 = nI rows → fI y 97 2 = nI G.length → fI y 96 5 = nI q2 → rows ≤ 2000 → G.length ≤ 500 → smN G = rows → 4 + bsm K = fr → post 0 y) : wp_Opn_lookAtFooter post 96 x := by
  have hS := S.le
  have hT := S.t
  have hn := S.1.2.1
  have L99 : fN x 99 = 6 := S.1.1 99 (by decide)
  -- in a fault
  have f232 : ∀ e u l2 l4 l6 l8 l10, ftO2 T n fr = .error e → FrFC x u → FlC 102 u e → j_Opn_lookAtFooter_232 post 96 70 l2 l4 l6 l8 l10 u := fun e u l2 l4 l6 l8 l10 a1 a2 a3 => by
    have f291 : ∀ s0, j_Opn_lookAtFooter_291 post 96 70 l2 l4 l6 l8 l10 s0 102 u := fun s0 => by
      unfold j_Opn_lookAtFooter_291 j_Opn_lookAtFooter_325
      refine k_ckf a3.ne (bn_f a3.ne ?_)
      rw [show stC 96 1 = 102 from rfl, a3.1]
      exact pe e u a1 a2 a3
    have f248 : ∀ s0, j_Opn_lookAtFooter_248 post 96 70 l2 l4 l6 l8 l10 s0 102 u := fun s0 => by
      unfold j_Opn_lookAtFooter_248
      exact k_ckf a3.ne (k_end0 a3.ne ⟨fun _ => f291 0, fun _ => f291 1⟩)
    unfold j_Opn_lookAtFooter_232
    exact ⟨fun _ => f248 0, fun _ => f248 1⟩
  have f83 : ∀ e u l2 l4 l6 l8 l10, ftO2 T n fr = .error e → FrFC x u → FlC 102 u e → ∀ Q, j_Opn_lookAtFooter_83 post Q 96 70 l2 l4 l6 l8 l10 u := fun e u l2 l4 l6 l8 l10 a1 a2 a3 Q => by
    unfold j_Opn_lookAtFooter_83
    exact ⟨fun _ => f232 e u _ _ _ _ _ a1 a2 a3, fun _ => ⟨fun _ => f232 e u _ _ _ _ _ a1 a2 a3, fun w => absurd w a3.ne⟩⟩
  -- from the number of groups on
  have tail : ∀ e u l2, ftO2 T n fr = .error e → FrFC x u → FlC 102 u e → wp_Src_readVarint (fun (r33 : Int64) (x32 : St) => wp_V_within (fun (r35 : Int32) (x34 : St) => wp_Src_check (fun (x36 : St) => (∀ x37 : St, x37 = setI x36 96 5 (fI x36 102 1) → ∃ n : Nat, wl_Opn_lookAtFooter_83 post n 96 70 l2 r33 0 0 0 x37)) 102 r35 16 x34) r33 500 x32) 102 u := fun e u l2 a1 a2 a3 => by
    refine k_vrd0 a3.ne (k_wany (fun _ => k_ckf a3.ne (nm_e ⟨1, ?_⟩)))
    unfold wl_Opn_lookAtFooter_83
    exact f83 e _ _ _ _ _ _ a1 (Fg.trans a2 (Fg.i (Or.inr (Or.inr (Or.inl ⟨rfl, rfl⟩))))) ⟨(gI_no (by decide)).trans a3.1, a3.2⟩ _
  unfold wp_Opn_lookAtFooter
  rw [show stC (stC 96 0) 5 = 70 from rfl, show stC 96 1 = 102 from rfl]
  refine k_schema S (fun e y y1 y2 y3 => k_vrd0 y3.ne (k_wany (fun _ => k_ckf y3.ne (tail e y _ (by unfold ftO2; rw [y1]) (FrFd.fc y2) y3)))) (fun F q y y1 y2 Sy Ry Fy Fne Fem => ?_)
  have h64 := Fy.2.1
  have h128 := Fy.1
  have e0 : ftO2 T n fr = (match nm4 T 2000 16 (n - 12) q with
    | .error e => .error e
    | .ok (rows, q1) => match nm4 T 500 16 (n - 12) q1 with
      | .error e => .error e
      | .ok (gs, q2) => match gpsO T F (n - 12) gs [] [] q2 with
        | .error e => .error e
        | .ok ((G, K), q3) => if smN G ≠ rows then .error 16 else if q3 < n - 12 then .error 6 else if 4 + bsm K ≠ fr then .error 17 else .ok (F, rows, G, K)) := by unfold ftO2; rw [y1]; rfl
  refine r_vrd so2 Sy (fun e z z1 z2 z3 => k_wany (fun _ => k_ckf z3.ne (tail e z _ ?_ (Fg.trans (FrFd.fc y2) (FrSr.fc z2)) z3))) (fun rows q1 z z1 z2 Sz v1 v2 => ?_)
  · rw [e0]; unfold nm4; rw [z1]
  have fz : FrFC x z := Fg.trans (FrFd.fc y2) (FrSr.fc z2)
  rw [show (2000 : Int64) = lN 2000 from rfl, show (500 : Int64) = lN 500 from rfl]
  refine k_within v1 (by decide) (fun cr => k_ck1 ?_) (fun cr => r_ck0 16 Sz (by decide) (by decide) (fun u u1 u2 => tail 16 u _ ?_ (Fg.trans fz (FrSr.fc u1)) u2))
  rotate_left
  · rw [e0]; unfold nm4; rw [z1]; simp only; rw [if_pos cr]
  have e1 : ftO2 T n fr = (match nm4 T 500 16 (n - 12) q1 with
      | .error e => .error e
      | .ok (gs, q2) => match gpsO T F (n - 12) gs [] [] q2 with
        | .error e => .error e
        | .ok ((G, K), q3) => if smN G ≠ rows then .error 16 else if q3 < n - 12 then .error 6 else if 4 + bsm K ≠ fr then .error 17 else .ok (F, rows, G, K)) := by
    rw [e0, show nm4 T 2000 16 (n - 12) q = .ok (rows, q1) from by unfold nm4; rw [z1]; simp only; rw [if_neg (by omega)]]
  have Rz : RepC z 70 F := Ry.cg7 (z2.ii (by decide)) (z2.ii (by decide)) (fun r _ _ => z2.aa id)
  refine r_vrd so2 Sz (fun e u u1 u2 u3 => k_wany (fun _ => k_ckf u3.ne (nm_e ⟨1, ?_⟩))) (fun gs q2 u u1 u2 Su w1 w2 => ?_)
  · unfold wl_Opn_lookAtFooter_83
    refine f83 e _ _ _ _ _ _ ?_ (Fg.trans (Fg.trans fz (FrSr.fc u2)) (Fg.i (Or.inr (Or.inr (Or.inl ⟨rfl, rfl⟩))))) ⟨(gI_no (by decide)).trans u3.1, u3.2⟩ _
    rw [e1]; unfold nm4; rw [u1]
  have fu : FrFC x u := Fg.trans fz (FrSr.fc u2)
  refine k_within w1 (by decide) (fun cg => k_ck1 (nm_e ?_)) (fun cg => r_ck0 16 Su (by decide) (by decide) (fun w s1 s2 => nm_e ⟨1, ?_⟩))
  rotate_left
  · unfold wl_Opn_lookAtFooter_83
    refine f83 16 _ _ _ _ _ _ ?_ (Fg.trans (Fg.trans fu (FrSr.fc s1)) (Fg.i (Or.inr (Or.inr (Or.inl ⟨rfl, rfl⟩))))) ⟨(gI_no (by decide)).trans s2.1, s2.2⟩ _
    rw [e1]; unfold nm4; rw [u1]; simp only; rw [if_pos cg]
  have e2 : ftO2 T n fr = (match gpsO T F (n - 12) gs [] [] q2 with
        | .error e => .error e
        | .ok ((G, K), q3) => if smN G ≠ rows then .error 16 else if q3 < n - 12 then .error 6 else if 4 + bsm K ≠ fr then .error 17 else .ok (F, rows, G, K)) := by
    rw [e1, show nm4 T 500 16 (n - 12) q1 = .ok (gs, q2) from by unfold nm4; rw [u1]; simp only; rw [if_neg (by omega)]]
  rw [Su.hp]
  have Sv : Sr 102 (setI u 96 5 (nI q2)) T n q2 (n - 12) := Su.i (by decide)
  have fv : FrFC x (setI u 96 5 (nI q2)) := Fg.trans fu (Fg.i (Or.inr (Or.inr (Or.inl ⟨rfl, rfl⟩))))
  have v5 : fI (setI u 96 5 (nI q2)) 96 5 = nI q2 := gI_at
  have Rv : RepC (setI u 96 5 (nI q2)) 70 F := Rz.cg7 ((gI_no (by decide)).trans (u2.ii (by decide))) ((gI_no (by decide)).trans (u2.ii (by decide))) (fun r _ _ => u2.aa id)
  have v1' : fI (setI u 96 5 (nI q2)) 104 1 = 4 := (fv.ii (by decide)).trans h1
  have v2' : fI (setI u 96 5 (nI q2)) 104 2 = nI fr := (fv.ii (by decide)).trans h2
  generalize setI u 96 5 (nI q2) = v at *
  have hq2 : fr ≤ q2 := by
    have := scO_le hT y1
    omega
  refine lp_Opn_lookAtFooter_83 (fun a0 a1 a2 a3 a4 a5 a6 w => 96 = a0 ∧ 70 = a1 ∧ lN rows = a2 ∧ lN gs = a3 ∧ FrFC x w ∧ ∃ g, nI g = a6 ∧ g ≤ gs + 1 ∧ ((∃ e, FlC 102 w e ∧ ftO2 T n fr = .error e) ∨ ∃ G K fp, g ≤ gs ∧ G.length = g ∧ K.length = ncol F * g ∧ lN (b40 K) = a4 ∧ lN (smN G) = a5 ∧ (∀ v, v ∈ G → v ≤ 2000) ∧ Fg (fun a k => a = 102 ∧ (k = 1 ∨ k = 3)) no2 no2 no1 (fun a => a = 99) v w ∧ Sr 102 w T n fp (n - 12) ∧ gpsO T F (n - 12) gs [] [] q2 = gpsO T F (n - 12) (gs - g) G K fp)) (fun _ _ _ _ _ _ a6 _ => gs + 1 - a6.toNatClampNeg) ?_ _ _ _ _ _ _ _ _ ⟨rfl, rfl, rfl, rfl, fv, 0, rfl, Nat.zero_le _, Or.inr ⟨[], [], q2, Nat.zero_le _, rfl, rfl, rfl, rfl, fun v hv => absurd hv (by simp), Fg.refl v, Sv, rfl⟩⟩
  rintro Q a0 a1 a2 a3 a4 a5 a6 w ⟨rfl, rfl, rfl, rfl, fw, g, rfl, g1, hh⟩ ih
  rcases hh with ⟨e, e1', e2'⟩ | ⟨G, K, fp, g2, lG, lK, rfl, rfl, hG, vw, Sw, hgp⟩
  · exact f83 e w _ _ _ _ _ e2' fw e1' Q
  have kb : K.length ≤ 64 * 500 := by rw [lK]; exact Nat.mul_le_mul h64 (by omega)
  have bK := b40_le K
  have sG := smN_bd G hG
  have Lw := Sw.1.1
  have Rw : RepC w 70 F := Rv.cg7 (vw.ii (by decide)) (vw.ii (by decide)) (fun r _ _ => vw.aa id)
  unfold j_Opn_lookAtFooter_83
  rw [show stC 96 1 = 102 from rfl, show (nI g).toInt64 = lN g from nI_l (by omega), lg_cmp_ge, lN_le2 (by omega) (by omega)]
  by_cases cgg : g < gs
  rotate_left
  · -- the end of the footer
    have eg : g = gs := by omega
    subst eg
    rw [Nat.sub_self] at hgp
    rw [show gpsO T F (n - 12) g [] [] q2 = .ok ((G, K), fp) from hgp] at e2
    have e2 : ftO2 T n fr = (if smN G ≠ rows then .error 16 else if fp < n - 12 then .error 6 else if 4 + bsm K ≠ fr then .error 17 else .ok (F, rows, G, K)) := e2
    refine br_t (by omega) ?_
    have hSw := Sw.le
    unfold j_Opn_lookAtFooter_232 j_Opn_lookAtFooter_248
    rw [show stC 96 1 = 102 from rfl, show stC 96 2 = 104 from rfl, lg_cmp_eq]
    have f291 : ∀ e u s0, ftO2 T n fr = .error e → FrFC x u → FlC 102 u e → j_Opn_lookAtFooter_291 post 96 70 (lN rows) (lN g) (lN (b40 K)) (lN (smN G)) (nI g) s0 102 u := fun e u s0 a1 a2 a3 => by
      unfold j_Opn_lookAtFooter_291 j_Opn_lookAtFooter_325
      refine k_ckf a3.ne (bn_f a3.ne ?_)
      rw [show stC 96 1 = 102 from rfl, a3.1]
      exact pe e u a1 a2 a3
    by_cases c16 : smN G = rows
    rotate_left
    · rw [if_pos c16] at e2
      exact bn_f (fun z => c16 (lN_inj (by omega) (by omega) z)) (r_ck0 16 Sw (by decide) (by decide) (fun u s1 s2 => k_end0 s2.ne ⟨fun _ => f291 16 u _ e2 (Fg.trans fw (FrSr.fc s1)) s2, fun _ => f291 16 u _ e2 (Fg.trans fw (FrSr.fc s1)) s2⟩))
    rw [if_neg (fun z => z c16)] at e2
    refine bn_t (by rw [c16]) (k_ck1 (r_end Sw (fun u c6 s1 s2 => ?_) (fun c6 => ?_)))
    · rw [if_pos c6] at e2
      exact ⟨fun _ => f291 6 u _ e2 (Fg.trans fw (FrSr.fc s1)) s2, fun _ => f291 6 u _ e2 (Fg.trans fw (FrSr.fc s1)) s2⟩
    rw [if_neg (by omega)] at e2
    rw [show fI w 104 2 = nI fr from (vw.ii (by decide)).trans v2', show fI w 104 1 = nI 4 from (vw.ii (by decide)).trans v1', nI_sub h4, show (nI (fr - 4)).toInt64 = lN (fr - 4) from nI_l (by omega), lg_cmp_eq]
    have bi := b40_iff (K := K) (m := fr - 4) (by omega)
    unfold j_Opn_lookAtFooter_291 j_Opn_lookAtFooter_325
    rw [show stC 96 1 = 102 from rfl, show stC 96 0 = 97 from rfl]
    by_cases c17 : 4 + bsm K = fr
    rotate_left
    · rw [if_pos c17] at e2
      refine bn_f (fun z => c17 ?_) (r_ck0 17 Sw (by decide) (by decide) (fun u s1 s2 => bn_f s2.ne ?_))
      · have := bi.mp (lN_inj (by omega) (by omega) z)
        omega
      · rw [s2.1]
        exact pe 17 u e2 (Fg.trans fw (FrSr.fc s1)) s2
    rw [if_neg (fun z => z c17)] at e2
    refine bn_t (by rw [bi.mpr (by omega)]) (k_ck1 (bn_t Sw.h0 (nm_e (nm_e ?_))))
    rw [lN_i, lN_i, show fI (setI (setI w 97 1 (nI rows)) 97 2 (nI g)) 102 3 = 0 from (gI_no (by decide)).trans ((gI_no (by decide)).trans Sw.h0)]
    refine pk F rows G K q2 fp _ e2 (by rw [lG, hgp]; rfl) hq2 Su.le.1 (Fg.trans (Fg.trans fw (Fg.i (Or.inr (Or.inr (Or.inr ⟨rfl, Or.inl rfl⟩))))) (Fg.i (Or.inr (Or.inr (Or.inr ⟨rfl, Or.inr rfl⟩))))) ((gI_no (by decide)).trans ((gI_no (by decide)).trans Sw.h0)) ((gI_no (by decide)).trans ((gI_no (by decide)).trans Sw.hs)) ?_ Fy Fne Fem ((gI_ne (by decide)).trans gI_at) (by rw [lG]; exact gI_at) ((gI_no (by decide)).trans ((gI_no (by decide)).trans ((vw.ii (by decide)).trans v5))) cr (by omega) c16 c17
    exact Rw.cg7 ((gI_no (by decide)).trans (gI_no (by decide))) ((gI_no (by decide)).trans (gI_no (by decide))) (fun r _ _ => rfl)
  -- one group more
  refine br_f (by omega) (bn_t Sw.h0 ?_)
  obtain ⟨d, hd⟩ : ∃ d, gs - g = d + 1 := ⟨gs - g - 1, by omega⟩
  rw [hd] at hgp
  have hg1 : gpsO T F (n - 12) (d + 1) G K fp = (match nm4 T 2000 16 (n - 12) fp with
    | .error e => .error e
    | .ok (r, q) => if r = 0 then .error 16 else match tdsO T F (n - 12) (ncol F) 0 K q with
      | .error e => .error e
      | .ok (K', q1) => gpsO T F (n - 12) d (G ++ [r]) K' q1) := rfl
  have go : ∀ e u l6 l8, ftO2 T n fr = .error e → FrFC x u → FlC 102 u e → Q 96 70 (lN rows) (lN gs) l6 l8 (nI g + 1) u := fun e u l6 l8 a1 a2 a3 => by
    rw [nI_1]
    exact ih _ _ _ _ _ _ _ _ ⟨rfl, rfl, rfl, rfl, a2, g + 1, rfl, by omega, Or.inl ⟨e, a3, a1⟩⟩ (by rw [nI_clamp (by omega), nI_clamp (by omega)]; omega)
  have f153 : ∀ e u l6 l8 l11, ftO2 T n fr = .error e → FrFC x u → FlC 102 u e → ∃ nn, wl_Opn_lookAtFooter_153 post Q nn 96 70 (lN rows) (lN gs) l6 l8 (nI g) l11 0 u := fun e u l6 l8 l11 a1 a2 a3 => by
    refine ⟨1, ?_⟩
    unfold wl_Opn_lookAtFooter_153 j_Opn_lookAtFooter_153 j_Opn_lookAtFooter_226
    exact ⟨fun _ => go e u _ _ a1 a2 a3, fun _ => ⟨fun _ => go e u _ _ a1 a2 a3, fun w => absurd w a3.ne⟩⟩
  have f138 : ∀ e u l6 l8 l11 s0, ftO2 T n fr = .error e → FrFC x u → FlC 102 u e → j_Opn_lookAtFooter_138 post Q 96 70 (lN rows) (lN gs) l6 l8 (nI g) l11 s0 102 u := fun e u l6 l8 l11 s0 a1 a2 a3 => by
    unfold j_Opn_lookAtFooter_138
    exact k_ckf a3.ne (nm_e (f153 e u _ _ _ a1 a2 a3))
  refine r_vrd so2 Sw (fun e s s1 s2 s3 => ?_) (fun r fq s s1 s2 Ss y1' y2' => ?_)
  · have er : ftO2 T n fr = .error e := by rw [e2, hgp, hg1]; unfold nm4; rw [s1]
    unfold j_Opn_lookAtFooter_137
    exact ⟨fun _ => f138 e s _ _ _ _ er (Fg.trans fw (FrSr.fc s2)) s3, fun _ => k_wany (fun b => ⟨fun _ => f138 e s _ _ _ _ er (Fg.trans fw (FrSr.fc s2)) s3, fun _ => f138 e s _ _ _ _ er (Fg.trans fw (FrSr.fc s2)) s3⟩)⟩
  have fs : FrFC x s := Fg.trans fw (FrSr.fc s2)
  have bad16 : ftO2 T n fr = .error 16 → j_Opn_lookAtFooter_137 post Q 96 70 (lN rows) (lN gs) (lN (b40 K)) (lN (smN G)) (nI g) (lN r) 102 s := fun er => by
    unfold j_Opn_lookAtFooter_137 j_Opn_lookAtFooter_138
    exact r_ck0 16 Ss (by decide) (by decide) (fun t t1 t2 => nm_e (f153 16 t _ _ _ er (Fg.trans fs (FrSr.fc t1)) t2))
  have en : nm4 T 2000 16 (n - 12) fp = (if 2000 < r then .error 16 else .ok (r, fq)) := by unfold nm4; rw [s1]
  rw [lg_cmp_eq, show (0 : Int64) = lN 0 from rfl, show (2000 : Int64) = lN 2000 from rfl]
  by_cases c0 : r = 0
  · refine br_t (by rw [c0]) (bad16 ?_)
    rw [e2, hgp, hg1, en, if_neg (by omega)]
    simp only
    rw [if_pos c0]
  refine br_f (fun z => c0 (lN_inj y1' (by decide) z)) (k_within y1' (by decide) (fun c2 => br_f (by decide) ?_) (fun c2 => br_t rfl (bad16 (by rw [e2, hgp, hg1, en, if_pos c2]))))
  rw [en, if_neg (by omega)] at hg1
  have hg1 : gpsO T F (n - 12) (d + 1) G K fp = (match tdsO T F (n - 12) (ncol F) 0 K fq with
      | .error e => .error e
      | .ok (K', q1) => gpsO T F (n - 12) d (G ++ [r]) K' q1) := by rw [hg1]; simp only; rw [if_neg c0]
  unfold j_Opn_lookAtFooter_138
  refine k_ck1 ?_
  rw [lN_add]
  refine nm_e ?_
  have ws : Fg (fun a k => a = 102 ∧ (k = 1 ∨ k = 3)) no2 no2 no1 (fun a => a = 99) v s := Fg.trans vw (FrSr.tc s2)
  refine lp_Opn_lookAtFooter_153 (fun a0 a1 a2 a3 a4 a5 a6 a7 a8 t => 96 = a0 ∧ 70 = a1 ∧ lN rows = a2 ∧ lN gs = a3 ∧ lN (smN G + r) = a5 ∧ nI g = a6 ∧ FrFC x t ∧ ∃ c, nI c = a8 ∧ c ≤ ncol F ∧ ((∃ e, FlC 102 t e ∧ ftO2 T n fr = .error e) ∨ ∃ K' fp', K'.length = ncol F * g + c ∧ lN (b40 K') = a4 ∧ Fg (fun a k => a = 102 ∧ (k = 1 ∨ k = 3)) no2 no2 no1 (fun a => a = 99) v t ∧ Sr 102 t T n fp' (n - 12) ∧ tdsO T F (n - 12) (ncol F) 0 K fq = tdsO T F (n - 12) (ncol F - c) c K' fp')) (fun _ _ _ _ _ _ _ _ a8 _ => ncol F - a8.toNatClampNeg) ?_ _ _ _ _ _ _ _ _ _ _ ⟨rfl, rfl, rfl, rfl, rfl, rfl, fs, 0, rfl, Nat.zero_le _, Or.inr ⟨K, fq, lK, rfl, ws, Ss, rfl⟩⟩
  rintro Q2 a0 a1 a2 a3 a4 a5 a6 a7 a8 t ⟨rfl, rfl, rfl, rfl, rfl, rfl, ft, c, rfl, c1, hh⟩ ih2
  unfold j_Opn_lookAtFooter_153 j_Opn_lookAtFooter_226
  rcases hh with ⟨e, e1', e2'⟩ | ⟨K', fp', lK', rfl, vt, St', htd⟩
  · exact ⟨fun _ => go e t _ _ e2' ft e1', fun _ => ⟨fun _ => go e t _ _ e2' ft e1', fun w => absurd w e1'.ne⟩⟩
  have Rt : RepC t 70 F := Rv.cg7 (vt.ii (by decide)) (vt.ii (by decide)) (fun r _ _ => vt.aa id)
  have Lt := St'.1.1
  rw [Rt.2.1, show stC 70 10 = 79 from rfl, show stC 70 3 = 72 from rfl, show stC 96 1 = 102 from rfl]
  by_cases cc : c < ncol F
  rotate_left
  · have ec : c = ncol F := by omega
    subst ec
    rw [Nat.sub_self] at htd
    rw [show tdsO T F (n - 12) (ncol F) 0 K fq = .ok (K', fp') from htd] at hg1
    refine br_t (by (first | omega | (simp (disch := omega) only [Int32.le_iff_toInt_le, Int32.lt_iff_toInt_lt, z_eq, z_in, nI_toInt, z_cl, z_m1, z_sg, z_255, Int32.reduceToInt] <;> omega) | (simp only [Int32.le_iff_toInt_le, Int32.lt_iff_toInt_lt, z_eq, z_in, z_add, z_sub, z_mul, z_neg, z_nI, z_cl, z_sg, z_255, z_lit, Int32.reduceToInt] <;> omega))) ?_
    rw [nI_1]
    refine ih _ _ _ _ _ _ _ _ ⟨rfl, rfl, rfl, rfl, ft, g + 1, rfl, by omega, Or.inr ⟨G ++ [r], K', fp', by omega, by rw [List.length_append, lG]; rfl, by rw [lK', Nat.mul_succ], rfl, by rw [smN_add], fun v hv => ?_, vt, St', ?_⟩⟩ (by rw [nI_clamp (by omega), nI_clamp (by omega)]; omega)
    · rcases List.mem_append.mp hv with z | z
      · exact hG v z
      · rw [List.mem_singleton.mp z]; exact c2
    · rw [hgp, show gs - (g + 1) = d by omega]
      exact hg1
  obtain ⟨l1, l2, l3⟩ := lfC_ok cc
  obtain ⟨ty4, -⟩ := ty_lt Fy cc
  rw [rA_nI (by omega : c < 2 ^ 31), col79 Rt cc, rA_nI (by omega : lfC F c < 2 ^ 31), col72 Fy Rt cc, show fN t 79 = 64 from Lt 79 (by decide), show fN t 72 = 128 from Lt 72 (by decide)]
  refine br_f (by (first | omega | (simp (disch := omega) only [Int32.le_iff_toInt_le, Int32.lt_iff_toInt_lt, z_eq, z_in, nI_toInt, z_cl, z_m1, z_sg, z_255, Int32.reduceToInt] <;> omega) | (simp only [Int32.le_iff_toInt_le, Int32.lt_iff_toInt_lt, z_eq, z_in, z_add, z_sub, z_mul, z_neg, z_nI, z_cl, z_sg, z_255, z_lit, Int32.reduceToInt] <;> omega))) (bn_t St'.h0 ⟨vp_in_nI (by omega) (by decide), vp_in_nI (by omega) (by decide), ?_⟩)
  obtain ⟨dc, hdc⟩ : ∃ dc, ncol F - c = dc + 1 := ⟨ncol F - c - 1, by omega⟩
  rw [hdc] at htd
  have ht1 : tdsO T F (n - 12) (dc + 1) c K' fp' = (match tdR T (tyC F c) (n - 12) fp' with
    | .error e => .error e
    | .ok (t, q) => tdsO T F (n - 12) dc (c + 1) (K' ++ [t]) q) := rfl
  have vin0 : ∀ a, FrFC x a → vp_in 0 (fN a (stC 96 6)) := fun a fa => by rw [show stC 96 6 = 99 from rfl, fa.len, L99]; exact vp_in_nI (n := 0) (by decide) (by decide)
  refine k_told (b := 40000) St' ty4 (by omega) (fun e a a1 a2 a3 => ?_) (fun tt q' a a1 a2 Sa tda => ?_)
  · have er : ftO2 T n fr = .error e := by rw [e2, hgp, hg1, htd, ht1, a1]
    have fa : FrFC x a := Fg.trans ft (FrTC.fc a2)
    have nx : ∀ l6, Q2 96 70 (lN rows) (lN gs) l6 (lN (smN G + r)) (nI g) a7 (nI c + 1) a := fun l6 => by
      rw [nI_1]
      exact ih2 _ _ _ _ _ _ _ _ _ _ ⟨rfl, rfl, rfl, rfl, rfl, rfl, fa, c + 1, rfl, cc, Or.inl ⟨e, a3, er⟩⟩ (by rw [nI_clamp (by omega), nI_clamp (by omega)]; omega)
    unfold j_Opn_lookAtFooter_217
    exact ⟨vin0 a fa, k_wany (fun b => ⟨fun _ => nm_e (nx _), fun _ => ⟨vin0 a fa, nm_e (nx _)⟩⟩)⟩
  · have fa : FrFC x a := Fg.trans ft (FrTC.fc a2)
    refine ⟨vin0 a fa, ?_⟩
    have r0 : rL a (stC 96 6) 0 = lN tt.1 := (rL_nI (o := 99) (k := 0) (by decide)).trans tda.1
    have nx : Q2 96 70 (lN rows) (lN gs) (lN (b40 (K' ++ [tt]))) (lN (smN G + r)) (nI g) a7 (nI c + 1) a := by
      rw [nI_1]
      exact ih2 _ _ _ _ _ _ _ _ _ _ ⟨rfl, rfl, rfl, rfl, rfl, rfl, fa, c + 1, rfl, cc, Or.inr ⟨K' ++ [tt], q', by rw [List.length_append, lK']; rfl, rfl, Fg.trans vt a2, Sa, by rw [htd, ht1, a1, show ncol F - (c + 1) = dc by omega]⟩⟩ (by rw [nI_clamp (by omega), nI_clamp (by omega)]; omega)
    rw [b40_add] at nx
    unfold j_Opn_lookAtFooter_217
    rw [r0, show (40000 : Int64) = lN 40000 from rfl]
    refine k_within tda.2.2.2.2.1 (by decide) (fun c4 => br_f (by decide) ⟨vin0 a fa, ?_⟩) (fun c4 => br_t rfl ?_)
    · rw [if_pos c4] at nx
      rw [r0, lN_add]
      exact nm_e nx
    · rw [if_neg (by omega)] at nx
      rw [lN_add]
      exact nm_e nx
end
