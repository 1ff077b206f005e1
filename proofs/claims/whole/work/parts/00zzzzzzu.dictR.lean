/-! the Opener reads a DICTIONARY; all codings -/
section
variable {x y z : St} {T : Nat → Nat} {n st p b : Nat}
theorem drop_s {α : Type} {N : List α} {j : Nat} {d : α} (h : j < N.length) : N.drop j = N.getD j d :: N.drop (j + 1) := by
  rw [List.drop_eq_getElem_cons h, List.getD_eq_getElem?_getD, List.getElem?_eq_getElem h]
  rfl
theorem okPv_len {ty : Nat} {v : PV} (h : okPv ty v) : v.2.length ≤ 255 := by
  by_cases c : ty = 3
  · exact (h.1 c).1.1
  · rw [h.2.1 c]; exact Nat.zero_le _
theorem okPv_nil {ty : Nat} {v : PV} (h : okPv ty v) (c : ty ≠ 3) : v.2 = [] := h.2.1 c
theorem plR_pv {ty d q : Nat} {p : Nat} {W : List PV} (hty : ty = 1 ∨ ty = 2 ∨ ty = 3) (hT : ∀ i, T i < 256) (h : plR T ty st d [] p = .ok (W, q)) (hp : p ≤ st) : ∀ v, v ∈ W → okPv ty v := by
  unfold plR at h
  by_cases c : ty = 3
  · rw [if_pos c] at h
    rw [c]
    exact (ptxF_pv hT _ _ _ _ _ h (fun v hv => absurd hv (by simp)) hp).1
  · rw [if_neg c] at h
    exact (wplF_pv (by omega) hT _ _ _ _ _ h (fun v hv => absurd hv (by simp)) hp).1
theorem k_dcR {post : St → Prop} {ty m pg dE : Nat} (hty : ty = 1 ∨ ty = 2 ∨ ty = 3) (S : Sr 104 x T n p st) (hm : m ≤ 1000) (hv : fI x 96 9 = nI m) (h15 : fI x 96 15 = 0) (hb : n ≤ b) (hb2 : b ≤ 120255) (h13 : fI x 96 13 = nI dE) (hdE : dE + m ≤ 11000) (hpg : pg < 6000)
    (pe : ∀ e y, dcR T ty m st p = .error e → FrVC b x y → FlC 104 y e → post y)
    (pk : ∀ P W q y, dcR T ty m st p = .ok ((P, W), q) → FrVC b x y → Sr 104 y T n q st → P.length = m → oF P P.length ≤ 20000 → VsC y 101 0 b ty P → fI y 96 15 = nI (oF P P.length) → fI y 96 14 = fI x 96 14 → VsC y 95 dE b ty W → W.length ≤ m → (∀ i, i < dE → fL y 95 i = fL x 95 i) → (W.length ≤ 100 → fI y 96 13 = nI (dE + W.length) ∧ fA y 94 = upd (fA x 94) pg (nI (dE * 128 + W.length))) → (100 < W.length → fI y 96 13 = nI dE ∧ fA y 94 = fA x 94) → post y) : wp_Opn_readDictionary post 96 (nI ty) (nI pg) x := by
  have hS := S.le
  have hT := S.t
  have L101 : fN x 101 = 2000 := S.1.1 101 (by decide)
  have L100 : fN x 100 = 2000 := S.1.1 100 (by decide)
  have L95 : fN x 95 = 11000 := S.1.1 95 (by decide)
  have L94 : fN x 94 = 6000 := S.1.1 94 (by decide)
  -- in a fault
  have f257 : ∀ (u : St) (e d : Nat) l3 l6 l7, d ≤ 1000 → FrVC b x u → FlC 104 u e → dcR T ty m st p = .error e → j_Opn_readDictionary_257 post 96 (nI ty) (nI pg) l3 (nI d) l6 l7 u := fun u e d l3 l6 l7 hd u1 u2 u3 => by
    unfold j_Opn_readDictionary_257
    refine ⟨fun _ => pe e u u3 u1 u2, fun _ => ⟨?_, nm_e (nm_e (pe e _ u3 ?_ ?_))⟩⟩
    · rw [show stC (stC 96 0) 18 = 94 from rfl, u1.1.len, L94]
      exact vp_in_nI hpg (by decide)
    · refine (u1.trans ?_).trans (FrVC.i (by decide))
      exact FrVC.of (Fg.a (A := fun a => a = 94) (I := no2) (J := no2) (R := no2) (L := no1) rfl) (fun _ _ z => z.elim) (fun _ _ z => z) (fun _ _ z => z) (fun a z => Or.inr z) (fun a z => z.elim)
    · exact ⟨(gI_no (by decide)).trans u2.1, u2.2⟩
  have f114 : ∀ (u : St) (e d : Nat) l3 l6 l7, d ≤ 1000 → FrVC b x u → FlC 104 u e → dcR T ty m st p = .error e → ∃ nn, wl_Opn_readDictionary_114 post nn 96 (nI ty) (nI pg) l3 (nI d) l6 l7 u := fun u e d l3 l6 l7 hd u1 u2 u3 => by
    refine ⟨1, ?_⟩
    unfold wl_Opn_readDictionary_114 j_Opn_readDictionary_114
    exact ⟨fun _ => f257 u e d _ _ _ hd u1 u2 u3, fun _ => ⟨fun _ => f257 u e d _ _ _ hd u1 u2 u3, fun z => absurd z u2.ne⟩⟩
  have f83 : ∀ (u : St) (e d : Nat) l3 l6 s0, d ≤ 1000 → FrVC b x u → FlC 104 u e → dcR T ty m st p = .error e → j_Opn_readDictionary_83 post 96 (nI ty) (nI pg) l3 (nI d) l6 s0 104 u := fun u e d l3 l6 s0 hd u1 u2 u3 => by
    unfold j_Opn_readDictionary_83
    exact k_ckf u2.ne (k_rns0 u2.ne (k_end0 u2.ne (f114 u e d _ _ _ hd u1 u2 u3)))
  unfold wp_Opn_readDictionary
  rw [show stC 96 2 = 104 from rfl, show stC (stC 96 0) 19 = 95 from rfl]
  refine r_vrd so4 S (fun e y y1 y2 y3 => ?_) (fun d q y y1 y2 Sy v1 v2 => ?_)
  · exact k_wany (fun _ => k_ckf y3.ne (br_f y3.ne (pe e y (by unfold dcR; rw [y1]) (FrVC.sr y2) y3)))
  have hSy := Sy.le
  rw [show (fI y 96 9).toInt64 = lN m from by rw [(y2.ii (by decide)).trans hv]; exact nI_l (by omega)]
  refine k_within v1 (by omega) (fun cd => k_ck1 (br_t Sy.h0 ?_)) (fun cd => r_ck0 4 Sy (by decide) (by decide) (fun z z1 z2 => br_f z2.ne (pe 4 z (by unfold dcR; rw [y1]; simp only; rw [if_pos cd]) ((FrVC.sr y2).trans (FrVC.sr z1)) z2)))
  have ed : dcR T ty m st p = (match plR T ty st d [] q with
    | .error e => .error e
    | .ok (W, q1) => if st ≤ q1 then .error 1 else if 32 < T q1 then .error 5 else match rns T m (T q1) st (q1 + 1) with
      | .error e => .error e
      | .ok (N, q2) => if q2 < st then .error 6 else match dtx W N [] with
        | .error e => .error e
        | .ok P => .ok ((P, W), q2)) := by unfold dcR; rw [y1]; simp only; rw [if_neg (by omega)]; rfl
  refine nm_r (e' := nI d) (lN_i d) ?_
  rw [(y2.ii (by decide)).trans h13]
  refine k_plain' Sy hty (by rw [y2.len, L95]; omega) (by rw [y2.len, L95]; decide) hb (fun e z z1 z2 z3 => ?_) (fun W q1 z z1 z2 Sz wl zv zo za => ?_)
  · exact k_byte0 z3.ne (br_f (by decide) (f83 z e d _ _ _ (by omega) ((FrVC.sr y2).trans (FrVC.sl (by decide) z2)) z3 (by rw [ed, z1])))
  have okW := plR_pv hty hT z1 hSy.1
  have fz : FrVC b x z := (FrVC.sr y2).trans (FrVC.sl (by decide) z2)
  rw [z1] at ed
  simp only at ed
  refine r_byte so4 Sz (fun e u u1 u2 u3 => ?_) (fun u u1 u2 Su c1 => ?_)
  · have ce : e = 1 ∧ st ≤ q1 := by
      unfold fxd at u1
      by_cases c : st < q1 + 1
      · rw [if_pos c] at u1; cases u1; exact ⟨rfl, by omega⟩
      · rw [if_neg c] at u1; cases u1
    exact br_f (by decide) (f83 u e d _ _ _ (by omega) (fz.trans (FrVC.sr u2)) u3 (by rw [ed, if_pos ce.2, ce.1]))
  rw [if_neg (by omega)] at ed
  have hTq := hT q1
  have fu : FrVC b x u := fz.trans (FrVC.sr u2)
  by_cases c32 : 32 < T q1
  · refine br_t (by (first | omega | (simp (disch := omega) only [Int32.le_iff_toInt_le, Int32.lt_iff_toInt_lt, z_eq, z_in, nI_toInt, z_cl, z_m1, z_sg, z_255, Int32.reduceToInt] <;> omega) | (simp only [Int32.le_iff_toInt_le, Int32.lt_iff_toInt_lt, z_eq, z_in, z_add, z_sub, z_mul, z_neg, z_nI, z_cl, z_sg, z_255, z_lit, Int32.reduceToInt] <;> omega))) ?_
    unfold j_Opn_readDictionary_83
    exact r_ck0 5 Su (by decide) (by decide) (fun w w1 w2 => k_rns0 w2.ne (k_end0 w2.ne (f114 w 5 d _ _ _ (by omega) (fu.trans (FrVC.sr w1)) w2 (by rw [ed, if_pos c32]))))
  refine br_f (by (first | omega | (simp (disch := omega) only [Int32.le_iff_toInt_le, Int32.lt_iff_toInt_lt, z_eq, z_in, nI_toInt, z_cl, z_m1, z_sg, z_255, Int32.reduceToInt] <;> omega) | (simp only [Int32.le_iff_toInt_le, Int32.lt_iff_toInt_lt, z_eq, z_in, z_add, z_sub, z_mul, z_neg, z_nI, z_cl, z_sg, z_255, z_lit, Int32.reduceToInt] <;> omega))) ?_
  rw [if_neg c32] at ed
  unfold j_Opn_readDictionary_83
  refine k_ck1 ?_
  rw [show stC 96 7 = 100 from rfl, (fu.1.ii (by decide)).trans hv]
  refine k_rns so4 Su (by omega) (by rw [fu.1.len, L100]; omega) (by rw [fu.1.len, L100]; decide) (fun e w w1 w2 w3 => ?_) (fun N q2 w w1 w2 Sw w3 => ?_)
  · exact k_end0 w3.ne (f114 w e d _ _ _ (by omega) (fu.trans (FrVC.sl (by decide) w2)) w3 (by rw [ed, w1]))
  rw [w1] at ed
  simp only at ed
  have fw : FrVC b x w := fu.trans (FrVC.sl (by decide) w2)
  obtain ⟨nl, nlt, -, -⟩ := rns_ok hT w1 Su.le.1
  refine r_end Sw (fun v c6 v1 v2 => f114 v 6 d _ _ _ (by omega) (fw.trans (FrVC.sr v1)) v2 (by rw [ed, if_pos c6])) (fun c6 => ?_)
  rw [if_neg (by omega)] at ed
  -- what stays as it is
  have w13 : fI w 96 13 = nI dE := (w2.ii (by decide)).trans ((u2.ii (by decide)).trans ((z2.ii (by decide)).trans ((y2.ii (by decide)).trans h13)))
  have w14 : fI w 96 14 = fI x 96 14 := (w2.ii (by decide)).trans ((u2.ii (by decide)).trans ((z2.ii (by decide)).trans (y2.ii (by decide))))
  have w15 : fI w 96 15 = 0 := (w2.ii (by decide)).trans ((u2.ii (by decide)).trans ((z2.ii (by decide)).trans ((y2.ii (by decide)).trans h15)))
  have w94 : fA w 94 = fA x 94 := (w2.aa id).trans ((u2.aa id).trans ((z2.aa id).trans (y2.aa id)))
  have w82 : fA w 82 = fA z 82 := (w2.aa id).trans (u2.aa id)
  have w95 : fL w 95 = fL z 95 := (w2.ll (by decide)).trans (u2.ll id)
  have vw : VsC w 95 dE b ty W := fun k hk => by rw [w95]; exact (zv k hk).same w82
  have aw : ∀ i, i < dE → fL w 95 i = fL x 95 i := fun i hi => by rw [w95, za i hi, y2.ll id]
  refine lp_Opn_readDictionary_114 (fun a0 a1 a2 a3 a4 a5 a6 v => 96 = a0 ∧ nI ty = a1 ∧ nI pg = a2 ∧ nI d = a4 ∧ FrVC b x v ∧ fI v 96 13 = nI dE ∧ fI v 96 14 = fI x 96 14 ∧ fA v 94 = fA x 94 ∧ fA v 82 = fA w 82 ∧ fL v 95 = fL w 95 ∧ (∀ i, i < m → fL v 100 i = lN (N.getD i 0)) ∧ ∃ j, nI j = a6 ∧ j ≤ m ∧ ((∃ e, FlC 104 v e ∧ dcR T ty m st p = .error e) ∨ ∃ acc, acc.length = j ∧ oF acc acc.length ≤ 20000 ∧ fI v 96 15 = nI (oF acc acc.length) ∧ Sr 104 v T n q2 st ∧ VsC v 101 0 b ty acc ∧ dtx W N [] = dtx W (N.drop j) acc)) (fun _ _ _ _ _ _ a6 _ => m - a6.toNatClampNeg) ?_ _ _ _ _ _ _ _ _ ⟨rfl, rfl, rfl, rfl, fw, w13, w14, w94, rfl, rfl, w3, 0, rfl, Nat.zero_le _, Or.inr ⟨[], rfl, Nat.zero_le _, w15, Sw, fun k hk => absurd hk (Nat.not_lt_zero _), rfl⟩⟩
  rintro Q a0 a1 a2 a3 a4 a5 a6 v ⟨rfl, rfl, rfl, rfl, fv, v13, v14, v94, v82, v95, v100, j, rfl, j1, v2⟩ ih
  have lv1 : fN v 101 = 2000 := (fv.1.len 101).trans L101
  have lv0 : fN v 100 = 2000 := (fv.1.len 100).trans L100
  have lv5 : fN v 95 = 11000 := (fv.1.len 95).trans L95
  unfold j_Opn_readDictionary_114
  rw [show stC 96 2 = 104 from rfl, show stC 96 7 = 100 from rfl, (fv.1.ii (by decide)).trans hv]
  rcases v2 with ⟨e, f1, f2⟩ | ⟨acc, q0, q1', q15, Sv, q3, q5⟩
  · exact ⟨fun _ => f257 v e d _ _ _ (by omega) fv f1 f2, fun _ => ⟨fun _ => f257 v e d _ _ _ (by omega) fv f1 f2, fun w => absurd w f1.ne⟩⟩
  · by_cases cj : j < m
    · refine br_f (by (first | omega | (simp (disch := omega) only [Int32.le_iff_toInt_le, Int32.lt_iff_toInt_lt, z_eq, z_in, nI_toInt, z_cl, z_m1, z_sg, z_255, Int32.reduceToInt] <;> omega) | (simp only [Int32.le_iff_toInt_le, Int32.lt_iff_toInt_lt, z_eq, z_in, z_add, z_sub, z_mul, z_neg, z_nI, z_cl, z_sg, z_255, z_lit, Int32.reduceToInt] <;> omega))) (bn_t Sv.h0 ⟨by rw [lv0]; exact vp_in_nI (by omega) (by decide), ?_⟩)
      obtain ⟨g, hg⟩ : ∃ g, g = N.getD j 0 := ⟨_, rfl⟩
      have g32 : g < 2 ^ 32 := by
        have : N.getD j 0 ∈ N := by
          rw [List.getD_eq_getElem?_getD, List.getElem?_eq_getElem (by omega)]
          exact List.getElem_mem _
        have l1 := nlt _ this
        have l2 : 2 ^ T q1 ≤ 2 ^ 32 := Nat.pow_le_pow_right (by decide) (by omega)
        omega
      have eg : rL v 100 (nI j) = lN g := by rw [rL_nI (by omega), v100 j cj, hg]
      have ds : dtx W (N.drop j) acc = (if W.length ≤ g then .error 7 else if 20000 < oF acc acc.length + (pvd W g).2.length then .error 7 else dtx W (N.drop (j + 1)) (acc ++ [pvd W g])) := by rw [drop_s (d := 0) (by omega), hg]; rfl
      rw [eg, show (nI d).toInt64 = lN d from nI_l (by omega), lg_cmp_ge, lN_le2 (by omega) (by omega)]
      have nx : ∀ (v' : St), FrVC b x v' → fI v' 96 13 = nI dE → fI v' 96 14 = fI x 96 14 → fA v' 94 = fA x 94 → fA v' 82 = fA w 82 → fL v' 95 = fL w 95 → (∀ i, i < m → fL v' 100 i = lN (N.getD i 0)) → ((∃ e, FlC 104 v' e ∧ dcR T ty m st p = .error e) ∨ ∃ acc, acc.length = j + 1 ∧ oF acc acc.length ≤ 20000 ∧ fI v' 96 15 = nI (oF acc acc.length) ∧ Sr 104 v' T n q2 st ∧ VsC v' 101 0 b ty acc ∧ dtx W N [] = dtx W (N.drop (j + 1)) acc) → j_Opn_readDictionary_251 post Q 96 (nI ty) (nI pg) a3 (nI d) a5 (nI j) v' := fun v' r1 r2 r3 r4 r5 r6 r7 r8 => by
        unfold j_Opn_readDictionary_251
        rw [nI_1]
        exact ih _ _ _ _ _ _ _ _ ⟨rfl, rfl, rfl, rfl, r1, r2, r3, r4, r5, r6, r7, j + 1, rfl, cj, r8⟩ (by rw [nI_clamp (by omega), nI_clamp (by omega)]; omega)
      by_cases cg : d ≤ g
      · refine br_t cg ?_
        rw [if_pos (by omega)] at ds
        unfold j_Opn_readDictionary_156
        exact r_ck0 7 Sv (by decide) (by decide) (fun v' r1 r2 => bn_f r2.ne (nx v' (fv.trans (FrVC.sr r1)) ((r1.ii (by decide)).trans v13) ((r1.ii (by decide)).trans v14) ((r1.aa id).trans v94) ((r1.aa id).trans v82) ((r1.ll id).trans v95) (fun i hi => by rw [r1.ll id]; exact v100 i hi) (Or.inl ⟨7, r2, by rw [ed, q5, ds]⟩)))
      · refine br_f cg ?_
        rw [if_neg (by omega)] at ds
        unfold j_Opn_readDictionary_156
        refine k_ck1 (bn_t Sv.h0 ⟨by show vp_in _ (fN v 100); rw [lv0]; exact vp_in_nI (by omega) (by decide), ?_⟩)
        rw [show stC 96 7 = 100 from rfl, eg, lN_i g, v13, nI_add, show stC (stC 96 0) 19 = 95 from rfl, show stC 96 8 = 101 from rfl, rL_nI (by omega : dE + g < 2 ^ 31), v95]
        have rg := vw g (by omega)
        refine ⟨by rw [lv5]; exact vp_in_nI (by omega) (by decide), by rw [lv1]; exact vp_in_nI (by omega) (by decide), nm_e ?_⟩
        generalize hval : fL w 95 (dE + g) = val at rg
        have okg := okW _ (pvd_mem (show g < W.length by omega))
        -- the value is laid, its bytes are counted
        have cnt : ∀ l, l = (pvd W g).2.length → j_Opn_readDictionary_223 post Q 96 (nI ty) (nI pg) a3 (nI d) a5 (nI j) (nI l) (fI (setL v 101 (nI j) val) 96 15) 96 (setL v 101 (nI j) val) := fun l hl => by
          have ll : l ≤ 255 := by rw [hl]; exact okPv_len okg
          unfold j_Opn_readDictionary_223 j_Opn_readDictionary_246
          rw [show fI (setL v 101 (nI j) val) 96 15 = nI (oF acc acc.length) from q15, nI_add]
          refine nm_e ?_
          rw [show fI (setI (setL v 101 (nI j) val) 96 15 (nI (oF acc acc.length + l))) 96 15 = nI (oF acc acc.length + l) from gI_at]
          have fv' : FrVC b x (setI (setL v 101 (nI j) val) 96 15 (nI (oF acc acc.length + l))) := (fv.trans (FrVC.l (by decide))).trans (FrVC.i (by decide))
          have Sv' : Sr 104 (setI (setL v 101 (nI j) val) 96 15 (nI (oF acc acc.length + l))) T n q2 st := Sv.l.i (by decide)
          have r13 : fI (setI (setL v 101 (nI j) val) 96 15 (nI (oF acc acc.length + l))) 96 13 = nI dE := (gI_ne (by decide)).trans v13
          have r14 : fI (setI (setL v 101 (nI j) val) 96 15 (nI (oF acc acc.length + l))) 96 14 = fI x 96 14 := (gI_ne (by decide)).trans v14
          have r95 : fL (setI (setL v 101 (nI j) val) 96 15 (nI (oF acc acc.length + l))) 95 = fL w 95 := (gL_ne (by decide)).trans v95
          have r100 : ∀ i, i < m → fL (setI (setL v 101 (nI j) val) 96 15 (nI (oF acc acc.length + l))) 100 i = lN (N.getD i 0) := fun i hi => by
            show fL (setL v 101 (nI j) val) 100 i = _
            rw [gL_ne (by decide)]
            exact v100 i hi
          have of2 : oF (acc ++ [pvd W g]) (acc ++ [pvd W g]).length = oF acc acc.length + l := by
            rw [List.length_append]
            show oF (acc ++ [_]) (acc.length + 1) = _
            rw [oF_a2, hl]
          rw [← hl] at ds
          by_cases cb : 20000 < oF acc acc.length + l
          · rw [if_pos cb] at ds
            refine br_t (by (first | omega | (simp (disch := omega) only [Int32.le_iff_toInt_le, Int32.lt_iff_toInt_lt, z_eq, z_in, nI_toInt, z_cl, z_m1, z_sg, z_255, Int32.reduceToInt] <;> omega) | (simp only [Int32.le_iff_toInt_le, Int32.lt_iff_toInt_lt, z_eq, z_in, z_add, z_sub, z_mul, z_neg, z_nI, z_cl, z_sg, z_255, z_lit, Int32.reduceToInt] <;> omega))) (r_ck0 7 Sv' (by decide) (by decide) (fun v' s1 s2 => nx v' (fv'.trans (FrVC.sr s1)) ((s1.ii (by decide)).trans r13) ((s1.ii (by decide)).trans r14) ((s1.aa id).trans v94) ((s1.aa id).trans v82) ((s1.ll id).trans r95) (fun i hi => by rw [s1.ll id]; exact r100 i hi) (Or.inl ⟨7, s2, by rw [ed, q5, ds]⟩)))
          · rw [if_neg cb] at ds
            refine br_f (by (first | omega | (simp (disch := omega) only [Int32.le_iff_toInt_le, Int32.lt_iff_toInt_lt, z_eq, z_in, nI_toInt, z_cl, z_m1, z_sg, z_255, Int32.reduceToInt] <;> omega) | (simp only [Int32.le_iff_toInt_le, Int32.lt_iff_toInt_lt, z_eq, z_in, z_add, z_sub, z_mul, z_neg, z_nI, z_cl, z_sg, z_255, z_lit, Int32.reduceToInt] <;> omega))) (k_ck1 (nx _ fv' r13 r14 v94 v82 r95 r100 (Or.inr ⟨acc ++ [pvd W g], by rw [List.length_append, q0]; rfl, by rw [of2]; omega, by rw [of2]; exact gI_at, Sv', fun i hi => ?_, by rw [q5, ds]⟩)))
            rw [List.length_append] at hi
            have hi : i < acc.length + 1 := hi
            rw [Nat.zero_add]
            show RfP _ b ty (fL (setL v 101 (nI j) val) 101 i) _
            rw [gL_at, nI_clamp (by omega)]
            by_cases e : i = acc.length
            · rw [e, q0, updL_at, show pvd (acc ++ [pvd W g]) j = pvd W g from by rw [← q0]; exact getD_n]
              exact rg.same v82
            · rw [updL_ne (by omega)]
              have := q3 i (by omega)
              rw [Nat.zero_add] at this
              rw [show pvd (acc ++ [pvd W g]) i = pvd acc i from getD_l (by omega)]
              exact this.same rfl
        by_cases c3 : ty = 3
        · subst c3
          obtain ⟨g1, a, g2, g3, -⟩ := rg.2 rfl
          refine bn_t rfl ⟨by show vp_in _ (fN v 101); rw [lv1]; exact vp_in_nI (by omega) (by decide), ?_⟩
          rw [rL_nI (by omega), gL_at, nI_clamp (by omega), updL_at]
          exact k_size (by rw [g2]; exact ref_sz g1.1 (by omega)) (cnt _ rfl)
        · refine bn_f (fun z => c3 (nI_inj (b := 3) (by omega) (by decide) z)) ?_
          have := cnt 0 (by rw [okPv_nil okg c3]; rfl)
          exact this
    · have ej : j = m := by omega
      subst ej
      refine br_t (by (first | omega | (simp (disch := omega) only [Int32.le_iff_toInt_le, Int32.lt_iff_toInt_lt, z_eq, z_in, nI_toInt, z_cl, z_m1, z_sg, z_255, Int32.reduceToInt] <;> omega) | (simp only [Int32.le_iff_toInt_le, Int32.lt_iff_toInt_lt, z_eq, z_in, z_add, z_sub, z_mul, z_neg, z_nI, z_cl, z_sg, z_255, z_lit, Int32.reduceToInt] <;> omega))) ?_
      rw [show N.drop j = [] from List.drop_eq_nil_of_le (by omega)] at q5
      have ed2 : dcR T ty j st p = .ok ((acc, W), q2) := by rw [ed, q5]; rfl
      have vv : ∀ (v' : St), fL v' 95 = fL w 95 → fA v' 82 = fA w 82 → VsC v' 95 dE b ty W := fun v' h1 h2 k hk => by rw [h1]; exact (vw k hk).same h2
      unfold j_Opn_readDictionary_257
      by_cases c100 : 100 < d
      · exact br_t (by (first | omega | (simp (disch := omega) only [Int32.le_iff_toInt_le, Int32.lt_iff_toInt_lt, z_eq, z_in, nI_toInt, z_cl, z_m1, z_sg, z_255, Int32.reduceToInt] <;> omega) | (simp only [Int32.le_iff_toInt_le, Int32.lt_iff_toInt_lt, z_eq, z_in, z_add, z_sub, z_mul, z_neg, z_nI, z_cl, z_sg, z_255, z_lit, Int32.reduceToInt] <;> omega))) (pk acc W q2 v ed2 fv Sv q0 q1' q3 q15 v14 (vv v v95 v82) (by omega) (fun i hi => by rw [v95]; exact aw i hi) (fun h => by omega) (fun _ => ⟨v13, v94⟩))
      · refine br_f (by (first | omega | (simp (disch := omega) only [Int32.le_iff_toInt_le, Int32.lt_iff_toInt_lt, z_eq, z_in, nI_toInt, z_cl, z_m1, z_sg, z_255, Int32.reduceToInt] <;> omega) | (simp only [Int32.le_iff_toInt_le, Int32.lt_iff_toInt_lt, z_eq, z_in, z_add, z_sub, z_mul, z_neg, z_nI, z_cl, z_sg, z_255, z_lit, Int32.reduceToInt] <;> omega))) ⟨by rw [show stC (stC 96 0) 18 = 94 from rfl, fv.1.len, L94]; exact vp_in_nI hpg (by decide), nm_e (nm_e ?_)⟩
        rw [show stC (stC 96 0) 18 = 94 from rfl, v13, show nI dE * 128 + nI d = nI (dE * 128 + d) from by rw [show (128 : Int32) = nI 128 from rfl, nI_mul, nI_add], show fI (setA v 94 (nI pg) (nI (dE * 128 + d))) 96 13 = nI dE from v13, nI_add]
        have fa : FrVC b v (setA v 94 (nI pg) (nI (dE * 128 + d))) := FrVC.of (Fg.a (A := fun a => a = 94) (I := no2) (J := no2) (R := no2) (L := no1) rfl) (fun _ _ z => z.elim) (fun _ _ z => z) (fun _ _ z => z) (fun a z => Or.inr z) (fun a z => z.elim)
        have e82 : fA (setA v 94 (nI pg) (nI (dE * 128 + d))) 82 = fA v 82 := gA_ne (by decide)
        refine pk acc W q2 _ ed2 ((fv.trans fa).trans (FrVC.i (by decide))) ((Sv.a (by decide)).i (by decide)) q0 q1' (fun k hk => (q3 k hk).same e82) ((gI_ne (by decide)).trans q15) ((gI_ne (by decide)).trans v14) (vv _ v95 (e82.trans v82)) (by omega) (fun i hi => by rw [show fL (setI (setA v 94 (nI pg) (nI (dE * 128 + d))) 96 13 (nI (dE + d))) 95 = fL v 95 from rfl, v95]; exact aw i hi) (fun _ => ⟨by rw [wl]; exact gI_at, ?_⟩) (fun h => by omega)
        rw [wl]
        show fA (setA v 94 (nI pg) (nI (dE * 128 + d))) 94 = _
        rw [gA_at, nI_clamp (by omega), v94]
end
