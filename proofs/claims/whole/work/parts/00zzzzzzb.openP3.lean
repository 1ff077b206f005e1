/-! a page of a column is opened, model: the whole -/
section
variable {x : St} {F : List SFd} {T : Nat → Nat} {n c row st p : Nat} {Q : List PV} {E : List SEn} {PP : List OPg}
theorem OsM.cg {y : St} (h : OsM x F Q E PP) (hI : ∀ k, k = 86 ∨ k = 87 ∨ k = 93 ∨ k = 94 → fI y 0 k = fI x 0 k) (hA : ∀ r, 55 ≤ r → r ≤ 60 ∨ 66 ≤ r → r ≤ 74 → fA y r = fA x r) (hL : fL y 54 = fL x 54) : OsM y F Q E PP := by
  refine ⟨h.1.cg (hI 93 (by decide)) (hI 94 (by decide)) hL (hA 55 (by decide) (by decide) (by decide)) (hA 56 (by decide) (by decide) (by decide)) (hA 57 (by decide) (by decide) (by decide)), (hI 87 (by decide)).trans h.2.1, (hI 86 (by decide)).trans h.2.2.1, fun i hi => ?_, fun k hk => ?_⟩
  · have := (h.2.2.2.1 i hi).cg (y := y) (Z := []) (fun r r1 r2 => by rw [hA r (by omega) (by omega) (by omega)])
    rw [List.append_nil] at this
    exact this
  · have := (h.2.2.2.2 k hk).cg (y := y) (Z := []) (fun r r1 r2 => by rw [hA r (by omega) (by omega) (by omega)])
    rw [List.append_nil] at this
    exact this
theorem s_openPage {post : St → Prop} (hF : FiM x T n) (hw : WfS F) (hR : RepM x 1 F) (hc : c < ncol F) (h0 : fI x 0 69 = 0) (hp : fI x 0 67 = nI p) (hps : p ≤ st) (hst : st ≤ n) (h34 : fA x 34 0 = 0) (hO : OsM x F Q E PP) (h88 : fI x 0 88 = nI (tx E)) (hE : E.length ≤ 10000) (hPP : PP.length ≤ E.length) (htx : tx E ≤ 60000) (hQ : Q.length ≤ 20000 + 2 * E.length) (hoQ : oF Q Q.length ≤ 40000 + tx E + p)
    (pe : ∀ e y, pgO T F c E.length (tx E) st p = .error e → FrOp x y → Flt y e → fA y 34 0 = 0 → post y)
    (pk : ∀ L W q Z y, pgO T F c E.length (tx E) st p = .ok ((L, W), q) → FrOp x y → fI y 0 69 = 0 → fI y 0 67 = nI q → OsM y F (Q ++ Z) (E ++ L) (PP ++ [(c, row, L, W)]) → fI y 0 88 = nI (tx (E ++ L)) → (Q ++ Z).length ≤ 20000 + 2 * (E ++ L).length → oF (Q ++ Z) (Q ++ Z).length ≤ 40000 + tx (E ++ L) + q → fA y 34 0 = 0 → fI y 0 38 = nI (tyC F c) → p + 10 ≤ q → q ≤ st → 0 < L.length → (E ++ L).length ≤ 10000 → tx (E ++ L) ≤ 60000 → fA y 68 PP.length = nI (nR L) → post y) : wp_Mod_openPage post (nI c) (nI row) (nI st) x := by
  have hn := hF.2.1
  have hT := hF.2.2.1
  have hL := hF.1
  obtain ⟨ty1, ty2⟩ := tyC_ok hw hc
  obtain ⟨mr17, md17⟩ := lv17 hw hc
  unfold wp_Mod_openPage
  refine s_typeOf1 hL hw hR hc (nm_e ?_)
  rw [ty1]
  have f1 : FrOp x (setI x 0 38 (nI (tyC F c))) := Fg.i ⟨rfl, by decide⟩
  refine s_mostR1 (f1.fi hF).1 hw (f1.rep hR) hc (nm_e ?_)
  have f2 : FrOp x (setI (setI x 0 38 (nI (tyC F c))) 0 39 (nI (rF F (lfC F c)))) := Fg.trans f1 (Fg.i ⟨rfl, by decide⟩)
  refine s_mostD1 (f2.fi hF).1 hw (f2.rep hR) hc (nm_e (nm_e ?_))
  generalize hg : setI (setI (setI (setI x 0 38 (nI (tyC F c))) 0 39 (nI (rF F (lfC F c)))) 0 40 (nI (dG F (nI (lfC F c))))) 0 59 0 = g
  have fg : FrOp x g := by
    rw [← hg]
    exact Fg.trans f2 (Fg.trans (Fg.i ⟨rfl, by decide⟩) (Fg.i ⟨rfl, by decide⟩))
  have g38 : fI g 0 38 = nI (tyC F c) := by rw [← hg]; exact (gI_ne (by decide)).trans ((gI_ne (by decide)).trans ((gI_ne (by decide)).trans gI_at))
  have g39 : fI g 0 39 = nI (mrC F c) := by rw [← hg]; exact (gI_ne (by decide)).trans ((gI_ne (by decide)).trans gI_at)
  have g40 : fI g 0 40 = nI (mdC F c) := by rw [← hg]; exact (gI_ne (by decide)).trans gI_at
  have gI : ∀ k, k ≠ 38 → k ≠ 39 → k ≠ 40 → k ≠ 59 → fI g 0 k = fI x 0 k := fun k a b d e => by rw [← hg]; exact (gI_ne e).trans ((gI_ne d).trans ((gI_ne b).trans (gI_ne a)))
  have gA' : ∀ r, fA g r = fA x r := fun r => by rw [← hg]; rfl
  have gL' : ∀ r, fL g r = fL x r := fun r => by rw [← hg]; rfl
  clear hg f1 f2
  have g69 : fI g 0 69 = 0 := (gI 69 (by decide) (by decide) (by decide) (by decide)).trans h0
  refine s_page (fg.fi hF) g69 ((gI 67 (by decide) (by decide) (by decide) (by decide)).trans hp) g38 g39 g40 ty2 mr17 md17 hps hst (by rw [gA']; exact h34) (fun e y y1 y2 y3 y4 => ?_) (fun how R D P W q y y1 y2 y3 y4 y5 y6 y7 y8 y9 y10 y11 y12 y13 y14 y15 y16 y17 => ?_)
  · refine br_f y3.ne (pe e y ?_ (Fg.trans fg y2.op) y3 y4)
    unfold pgO
    rw [y1]
  · obtain ⟨k1, k2, k3, k4, k5, k6, k7, k8, k9, k10, k11, k12, k13, k14⟩ := pgR_ok ty2 hT y1
    have fy : FrOp x y := Fg.trans fg y2.op
    have Fy := fy.fi hF
    have Ly := Fy.1
    have Ry := fy.rep hR
    have n28 : fN y 28 = 1008 := Ly 28
    have n34 : fN y 34 = 1001 := Ly 34
    have i38 : fI y 0 38 = nI (tyC F c) := (y2.1 0 38 (by decide)).trans g38
    have i40 : fI y 0 40 = nI (mdC F c) := (y2.1 0 40 (by decide)).trans g40
    have i88 : fI y 0 88 = nI (tx E) := (y2.1 0 88 (by decide)).trans ((gI 88 (by decide) (by decide) (by decide) (by decide)).trans h88)
    have i87 : fI y 0 87 = nI E.length := (y2.1 0 87 (by decide)).trans ((gI 87 (by decide) (by decide) (by decide) (by decide)).trans hO.2.1)
    have i86 : fI y 0 86 = nI PP.length := (y2.1 0 86 (by decide)).trans ((gI 86 (by decide) (by decide) (by decide) (by decide)).trans hO.2.2.1)
    have Oy : OsM y F Q E PP := hO.cg (fun k hk => (y2.1 0 k (by omega)).trans (gI k (by omega) (by omega) (by omega) (by omega))) (fun r r1 r2 r3 => (y2.2.2.2.1 r (by omega)).trans (gA' r)) ((y2.2.2.2.2.1 54 (by decide)).trans (gL' 54))
    have hmem : ∀ {M : List Nat} {i : Nat}, i < M.length → M.getD i 0 ∈ M := fun {M i} h => getD_mem (B := M) h
    have lvl : ∀ i, i < D.length → R.getD i 0 ≤ mrC F c ∧ D.getD i 0 ≤ mdC F c := fun i hi => ⟨k6 _ (hmem (by omega)), k7 _ (hmem hi)⟩
    have eo : pgO T F c E.length (tx E) st p = (if 10000 < E.length + D.length ∨ 60000 < tx E + oF P P.length then .error 22 else if R.getD 0 0 ≠ 0 then .error 19 else if ∃ k, k < D.length ∧ 1 ≤ k ∧ badO F (lfC F c) R D k then .error 20 else .ok ((entL c (mdC F c) R D P, if W.length ≤ 100 then W else []), q)) := by
      unfold pgO
      rw [y1]
    have oP : (tyC F c ≠ 3 → oF P P.length = 0) ∧ oF P P.length ≤ 255000 := by
      refine ⟨fun c3 => oF_0 (fun v hv => (k9 v hv).2.1 c3) _ (Nat.le_refl _), ?_⟩
      by_cases c3 : tyC F c = 3
      · have := (y15.1 c3).2.2.1
        omega
      · rw [oF_0 (fun v hv => (k9 v hv).2.1 c3) _ (Nat.le_refl _)]
        omega
    refine br_t y3 ?_
    -- texts are counted
    have core : ∀ s, s = nI (oF P P.length) → j_Mod_openPage_74 post (nI c) (nI row) (nI st) s (fI y 0 88) y := fun s hs => by
      unfold j_Mod_openPage_74
      refine nm_e ?_
      rw [hs, i88, nI_add]
      generalize hz : setI y 0 88 (nI (tx E + oF P P.length)) = z
      have zI : ∀ k, k ≠ 88 → fI z 0 k = fI y 0 k := fun k hk => by rw [← hz]; exact gI_ne hk
      have z88 : fI z 0 88 = nI (tx E + oF P P.length) := by rw [← hz]; exact gI_at
      have zA : ∀ r, fA z r = fA y r := fun r => by rw [← hz]; rfl
      have zL : ∀ r, fL z r = fL y r := fun r => by rw [← hz]; rfl
      have fz : FrOp x z := by
        rw [← hz]
        exact Fg.trans fy (Fg.i ⟨rfl, by decide⟩)
      clear hz
      have Fz := fz.fi hF
      have z69 : fI z 0 69 = 0 := (zI 69 (by decide)).trans y3
      have z34 : fA z 34 0 = 0 := by rw [zA]; exact y17
      have n28z : fN z 28 = 1008 := Fz.1 28
      rw [zI 87 (by decide), zI 41 (by decide), i87, y11, nI_add, z88]
      -- behind a fault
      have F2 : ∀ (u : St) e, Flt u e → pgO T F c E.length (tx E) st p = .error e → FrOp x u → fA u 34 0 = 0 → j_Mod_openPage_145 post (nI c) (nI row) (nI st) u := fun u e hf he hu h34u => by
        unfold j_Mod_openPage_145
        exact br_f hf.ne (pe e u he hu hf h34u)
      have F1 : ∀ (u : St) e s, Flt u e → pgO T F c E.length (tx E) st p = .error e → FrOp x u → fA u 34 0 = 0 → j_Mod_openPage_128 post (nI c) (nI row) (nI st) s u := fun u e s hf he hu h34u => by
        unfold j_Mod_openPage_128
        exact s_flt hf.ne ⟨fun _ => F2 u e hf he hu h34u, fun w => absurd w hf.ne⟩
      have flI : ∀ (u : St) e, 0 < e → e < 100 → Flt (setI u 0 69 (nI e)) e := fun u e a b => ⟨gI_at, a, b⟩
      have j103 : (10000 < E.length + D.length ∨ 60000 < tx E + oF P P.length) → j_Mod_openPage_103 post (nI c) (nI row) (nI st) z := fun hb => by
        rw [if_pos hb] at eo
        unfold j_Mod_openPage_103 j_Mod_openPage_108
        refine s_fl1 z69 ⟨vp_in_nI (n := 0) (N := fN z 28) (by omega) (by omega), fun _ => ?_, fun _ => ?_⟩
        · exact F1 _ 22 _ (flI z 22 (by decide) (by decide)) eo (Fg.trans fz (Fg.i ⟨rfl, by decide⟩)) z34
        · exact F1 _ 22 _ (flI z 22 (by decide) (by decide)) eo (Fg.trans fz (Fg.i ⟨rfl, by decide⟩)) z34
      by_cases c1 : 10000 < E.length + D.length
      · exact br_t (by (first | omega | (simp (disch := omega) only [Int32.le_iff_toInt_le, Int32.lt_iff_toInt_lt, z_eq, z_in, nI_toInt, z_cl, z_m1, z_sg, z_255, Int32.reduceToInt] <;> omega) | (simp only [Int32.le_iff_toInt_le, Int32.lt_iff_toInt_lt, z_eq, z_in, z_add, z_sub, z_mul, z_neg, z_nI, z_cl, z_sg, z_255, z_lit, Int32.reduceToInt] <;> omega))) (j103 (Or.inl c1))
      · refine br_f (by (first | omega | (simp (disch := omega) only [Int32.le_iff_toInt_le, Int32.lt_iff_toInt_lt, z_eq, z_in, nI_toInt, z_cl, z_m1, z_sg, z_255, Int32.reduceToInt] <;> omega) | (simp only [Int32.le_iff_toInt_le, Int32.lt_iff_toInt_lt, z_eq, z_in, z_add, z_sub, z_mul, z_neg, z_nI, z_cl, z_sg, z_255, z_lit, Int32.reduceToInt] <;> omega))) ?_
        by_cases c2 : 60000 < tx E + oF P P.length
        · exact br_f (by (first | omega | (simp (disch := omega) only [Int32.le_iff_toInt_le, Int32.lt_iff_toInt_lt, z_eq, z_in, nI_toInt, z_cl, z_m1, z_sg, z_255, Int32.reduceToInt] <;> omega) | (simp only [Int32.le_iff_toInt_le, Int32.lt_iff_toInt_lt, z_eq, z_in, z_add, z_sub, z_mul, z_neg, z_nI, z_cl, z_sg, z_255, z_lit, Int32.reduceToInt] <;> omega))) (j103 (Or.inr c2))
        · refine br_t (by (first | omega | (simp (disch := omega) only [Int32.le_iff_toInt_le, Int32.lt_iff_toInt_lt, z_eq, z_in, nI_toInt, z_cl, z_m1, z_sg, z_255, Int32.reduceToInt] <;> omega) | (simp only [Int32.le_iff_toInt_le, Int32.lt_iff_toInt_lt, z_eq, z_in, z_add, z_sub, z_mul, z_neg, z_nI, z_cl, z_sg, z_255, z_lit, Int32.reduceToInt] <;> omega))) ?_
          rw [if_neg (by omega)] at eo
          unfold j_Mod_openPage_108
          have r0 : rA z 28 0 = nI (R.getD 0 0) := by
            show fA z 28 (Int32.toNatClampNeg 0) = _
            rw [show (0 : Int32).toNatClampNeg = 0 from rfl, zA]
            exact (y14 0 (by omega)).1
          have lv0 := (lvl 0 (by omega)).1
          refine s_fl0 ⟨vp_in_nI (n := 0) (N := fN z 28) (by omega) (by omega), ?_⟩
          rw [r0]
          by_cases c3 : R.getD 0 0 = 0
          · rw [if_neg (fun w => w c3)] at eo
            refine br_t (by rw [c3]; rfl) ?_
            unfold j_Mod_openPage_128
            refine s_fl0 ⟨fun w => absurd z69 w, fun _ => ?_⟩
            refine s_order (m := D.length) (R := R) (D := D) Fz.1 hw (fz.rep hR) hc z69 ((zI 41 (by decide)).trans y11) (by omega) (fun i hi => by rw [zA, zA]; exact y14 i (by omega)) (fun i hi => (lvl i hi).1) (fun i hi => by have := (lvl i hi).2; omega) (fun hgood => ?_) (fun hbad => ?_)
            · rw [if_neg hgood] at eo
              unfold j_Mod_openPage_145
              refine br_t z69 ?_
              have n66 : ∀ r, 66 ≤ r → r ≤ 72 → fN z r = 10000 := fun r r1 r2 => by
                have : r = 66 ∨ r = 67 ∨ r = 68 ∨ r = 69 ∨ r = 70 ∨ r = 71 ∨ r = 72 := by omega
                rcases this with w | w | w | w | w | w | w <;> rw [w]
                · exact Fz.1 66
                · exact Fz.1 67
                · exact Fz.1 68
                · exact Fz.1 69
                · exact Fz.1 70
                · exact Fz.1 71
                · exact Fz.1 72
              have pl : PP.length < 10000 := by omega
              refine nm_r (e' := nI PP.length) ((zI 86 (by decide)).trans i86) ?_
              have e41 : fI z 0 41 = nI D.length := (zI 41 (by decide)).trans y11
              have e42 : fI z 0 42 = nI P.length := (zI 42 (by decide)).trans y12
              have vi : ∀ r, 66 ≤ r → r ≤ 72 → ∀ u : St, (∀ o, fN u o = fN z o) → vp_in (nI PP.length) (fN u r) := fun r r1 r2 u hu => by rw [hu, n66 r r1 r2]; exact vp_in_nI (by omega) (by omega)
              refine ⟨vi 66 (by decide) (by decide) _ (fun _ => rfl), nm_e ⟨vi 67 (by decide) (by decide) _ (fun _ => rfl), nm_e ⟨vi 68 (by decide) (by decide) _ (fun _ => rfl), nm_e ⟨vi 69 (by decide) (by decide) _ (fun _ => rfl), nm_e ⟨vi 70 (by decide) (by decide) _ (fun _ => rfl), nm_e ⟨vi 71 (by decide) (by decide) _ (fun _ => rfl), nm_e ⟨vi 72 (by decide) (by decide) _ (fun _ => rfl), nm_e ?_⟩⟩⟩⟩⟩⟩⟩
              have e41' : ∀ (u : St), (∀ o j, fI u o j = fI z o j) → fI u 0 41 = nI D.length ∧ fI u 0 42 = nI P.length := fun u hu => ⟨(hu 0 41).trans e41, (hu 0 42).trans e42⟩
              rw [show fI (setA (setA (setA z 66 (nI PP.length) (nI c)) 67 (nI PP.length) (nI row)) 68 (nI PP.length) 0) 0 41 = nI D.length from e41,
                show fI (setA (setA (setA (setA z 66 (nI PP.length) (nI c)) 67 (nI PP.length) (nI row)) 68 (nI PP.length) 0) 69 (nI PP.length) (nI D.length)) 0 41 = nI D.length from e41,
                show fI (setA (setA (setA (setA z 66 (nI PP.length) (nI c)) 67 (nI PP.length) (nI row)) 68 (nI PP.length) 0) 69 (nI PP.length) (nI D.length)) 0 42 = nI P.length from e42, nI_sub (by omega)]
              generalize hu : setA (setA (setA (setA (setA (setA (setA z 66 (nI PP.length) (nI c)) 67 (nI PP.length) (nI row)) 68 (nI PP.length) 0) 69 (nI PP.length) (nI D.length)) 70 (nI PP.length) (nI (D.length - P.length))) 71 (nI PP.length) (-1)) 72 (nI PP.length) (-1) = u
              have uI : ∀ o j, fI u o j = fI z o j := fun o j => by rw [← hu]; rfl
              have uL : ∀ a, fL u a = fL z a := fun a => by rw [← hu]; rfl
              have uN : ∀ o, fN u o = fN z o := fun o => by rw [← hu]; rfl
              have pb : PP.length < 2 ^ 31 := by omega
              have uF : ∀ r k, k ≠ PP.length → fA u r k = fA z r k := fun r k hk => by rw [← hu, gA_off pb hk, gA_off pb hk, gA_off pb hk, gA_off pb hk, gA_off pb hk, gA_off pb hk, gA_off pb hk]
              have uA : ∀ r, (r < 66 ∨ 72 < r) → fA u r = fA z r := fun r hr => by rw [← hu, gA_ne (by omega), gA_ne (by omega), gA_ne (by omega), gA_ne (by omega), gA_ne (by omega), gA_ne (by omega), gA_ne (by omega)]
              have u66 : fA u 66 PP.length = nI c := by rw [← hu, gA_ne (by decide), gA_ne (by decide), gA_ne (by decide), gA_ne (by decide), gA_ne (by decide), gA_ne (by decide), gA_on pb]
              have u67 : fA u 67 PP.length = nI row := by rw [← hu, gA_ne (by decide), gA_ne (by decide), gA_ne (by decide), gA_ne (by decide), gA_ne (by decide), gA_on pb]
              have u68 : fA u 68 PP.length = 0 := by rw [← hu, gA_ne (by decide), gA_ne (by decide), gA_ne (by decide), gA_ne (by decide), gA_on pb]
              have u69 : fA u 69 PP.length = nI D.length := by rw [← hu, gA_ne (by decide), gA_ne (by decide), gA_ne (by decide), gA_on pb]
              have u70 : fA u 70 PP.length = nI (D.length - P.length) := by rw [← hu, gA_ne (by decide), gA_ne (by decide), gA_on pb]
              have u71 : fA u 71 PP.length = -1 := by rw [← hu, gA_ne (by decide), gA_on pb]
              have u72 : fA u 72 PP.length = -1 := by rw [← hu, gA_on pb]
              have fu : FrOp x u := by
                rw [← hu]
                exact Fg.trans fz (Fg.trans (Fg.a (by decide)) (Fg.trans (Fg.a (by decide)) (Fg.trans (Fg.a (by decide)) (Fg.trans (Fg.a (by decide)) (Fg.trans (Fg.a (by decide)) (Fg.trans (Fg.a (by decide)) (Fg.a (by decide))))))))
              clear hu
              have uy : ∀ k, k ≠ 88 → fI u 0 k = fI y 0 k := fun k hk => (uI 0 k).trans (zI k hk)
              have Ou : OsM u F Q E PP := by
                refine ⟨Oy.1.cg (uy 93 (by decide)) (uy 94 (by decide)) ((uL 54).trans (zL 54)) ((uA 55 (by decide)).trans (zA 55)) ((uA 56 (by decide)).trans (zA 56)) ((uA 57 (by decide)).trans (zA 57)), (uy 87 (by decide)).trans i87, (uy 86 (by decide)).trans i86, fun i hi => ?_, fun k hk => ?_⟩
                · have := (Oy.2.2.2.1 i hi).cg (y := u) (Z := []) (fun r r1 r2 => by rw [uA r (by omega), zA])
                  rw [List.append_nil] at this
                  exact this
                · have := (Oy.2.2.2.2 k hk).cg (y := u) (Z := []) (fun r r1 r2 => by rw [uF r k (by omega), zA])
                  rw [List.append_nil] at this
                  exact this
              have Nu : NvM u (tyC F c) P := ⟨fun c3 => (y15.1 c3).cg (uy 58 (by decide)) ((uA 34 (by decide)).trans (zA 34)) ((uA 37 (by decide)).trans (zA 37)), fun c3 k hk => by rw [uL, zL]; exact y15.2 c3 k hk⟩
              have hQ2 : Q.length + P.length ≤ 50000 := by omega
              have hcv := hv_le (md := mdC F c) D
              refine s_opL (E := E) (PP := PP) (R := R) (D := D) (fu.fi hF).1 k8 ty2 k9 (by omega) (by omega) pl (fun i hi => by have := lvl i hi; omega) md17 hQ2 (by omega) Ou ((uy 41 (by decide)).trans y11) ((uy 38 (by decide)).trans i38) ((uy 40 (by decide)).trans i40) (fun i hi => by rw [uA 28 (by decide), uA 29 (by decide), zA, zA]; exact y14 i (by omega)) Nu u68 u71 u72 (fun v S v1 v2 v3 v4 => ?_)
              have fv : FrOp x v := Fg.trans fu v1.op
              have vI : ∀ k, k ≠ 87 → k ≠ 93 → k ≠ 94 → k ≠ 88 → fI v 0 k = fI y 0 k := fun k a b d e => (v1.1 0 k (by omega)).trans (uy k e)
              have Wv : WdM v (tyC F c) how W := fun c0 ch => by
                obtain ⟨w1, w2⟩ := y16 c0 ch
                refine ⟨fun c3 => ?_, fun c3 => ?_⟩
                · have := w1 c3
                  unfold WdT at this ⊢
                  rw [vI 59 (by decide) (by decide) (by decide) (by decide), show fA v 35 = fA y 35 from (v1.2.2.2.1 35 (by decide)).trans ((uA 35 (by decide)).trans (zA 35)), show fA v 38 = fA y 38 from (v1.2.2.2.1 38 (by decide)).trans ((uA 38 (by decide)).trans (zA 38))]
                  exact this
                · have := w2 c3
                  unfold WdW at this ⊢
                  rw [vI 59 (by decide) (by decide) (by decide) (by decide), show fL v 32 = fL y 32 from (v1.2.2.2.2.1 32 (by decide)).trans ((uL 32).trans (zL 32))]
                  exact this
              have lQ : (Q ++ P).length = Q.length + P.length := List.length_append
              refine s_opW (PP := PP) (how := how) (W := W) (fv.fi hF).1 ty2 k11 ((vI 41 (by decide) (by decide) (by decide) (by decide)).trans y11) (by omega) ((vI 38 (by decide) (by decide) (by decide) (by decide)).trans i38) ((vI 43 (by decide) (by decide) (by decide) (by decide)).trans y13) pl v2.1 (by omega) (by rw [oF_all]; omega) v2.2.2.1 Wv k14 k10 (by omega) (fun w Z a w1 w2 w3 w4 w5 w6 w7 w8 w9 w10 w11 w12 w13 => ?_)
              have fw : FrOp x w := Fg.trans fv w1
              have hLl : (entL c (mdC F c) R D P).length = D.length := entL_len
              have hW' : (if W.length ≤ 100 then W else []).length ≤ W.length := by split; exact Nat.le_refl _; exact Nat.zero_le _
              have ta := tx_all (c := c) (R := R) k8
              refine pk (entL c (mdC F c) R D P) (if W.length ≤ 100 then W else []) q (P ++ Z) w eo fw ?_ ?_ ?_ ?_ ?_ ?_ ?_ ?_ k1 k2 (by omega) ?_ ?_ ?_
              · exact (w5 69 (by decide) (by decide)).trans ((vI 69 (by decide) (by decide) (by decide) (by decide)).trans y3)
              · exact (w5 67 (by decide) (by decide)).trans ((vI 67 (by decide) (by decide) (by decide) (by decide)).trans y4)
              · rw [← List.append_assoc]
                refine ⟨w2, (w5 87 (by decide) (by decide)).trans v2.2.1, by rw [List.length_append]; exact w3, fun i hi => (v2.2.2.2.1 i hi).cg (fun r r1 r2 => by rw [w4 r (by omega) (by omega) (by omega) (by omega) (by omega)]), fun k hk => ?_⟩
                rw [List.length_append, show [(c, row, entL c (mdC F c) R D P, if W.length ≤ 100 then W else [])].length = 1 from rfl] at hk
                have wA : ∀ r k, 66 ≤ r → r ≤ 74 → k ≠ PP.length → fA w r k = fA v r k := fun r k r1 r2 hk => by
                  by_cases d1 : r = 73
                  · rw [d1]; exact (w7 k hk).1
                  · by_cases d2 : r = 74
                    · rw [d2]; exact (w7 k hk).2
                    · rw [w4 r d1 d2 (by omega) (by omega) (by omega)]
                by_cases e : k = PP.length
                · subst e
                  rw [getD_n]
                  have vu : ∀ r, (r = 66 ∨ r = 67 ∨ r = 69 ∨ r = 70) → fA w r = fA u r := fun r hr => (w4 r (by omega) (by omega) (by omega) (by omega) (by omega)).trans (v1.2.2.2.1 r (by omega))
                  refine ⟨?_, ?_, ?_, ?_, ?_, ?_, a, w8, w9, w10, w11⟩
                  · rw [vu 66 (by decide)]; exact u66
                  · rw [vu 67 (by decide)]; exact u67
                  · rw [w4 68 (by decide) (by decide) (by decide) (by decide) (by decide)]; exact v3
                  · rw [vu 69 (by decide), u69]
                    show _ = nI (entL c (mdC F c) R D P).length
                    rw [hLl]
                  · rw [vu 70 (by decide), u70]
                    show _ = nI ((entL c (mdC F c) R D P).length - (vlE (mdC F c) (entL c (mdC F c) R D P)).length)
                    rw [hLl, vlE_all k8]
                  · show BdO w (tyC F c) (Q ++ P ++ Z) PP.length (vlE (mdC F c) (entL c (mdC F c) R D P))
                    rw [vlE_all k8]
                    exact v4.cg (by rw [w4 71 (by decide) (by decide) (by decide) (by decide) (by decide)]) (by rw [w4 72 (by decide) (by decide) (by decide) (by decide) (by decide)])
                · rw [getD_l (by omega)]
                  exact (v2.2.2.2.2 k (by omega)).cg (fun r r1 r2 => wA r k r1 r2 e)
              · rw [tx_app, ta]
                exact w6.trans ((v1.1 0 88 (by decide)).trans ((uI 0 88).trans z88))
              · rw [← List.append_assoc, List.length_append (as := Q ++ P), List.length_append (as := E), hLl]
                omega
              · rw [← List.append_assoc, oF_all, oF_all, tx_app, ta]
                omega
              · rw [w4 34 (by decide) (by decide) (by decide) (by decide) (by decide), show fA v 34 = fA y 34 from (v1.2.2.2.1 34 (by decide)).trans ((uA 34 (by decide)).trans (zA 34))]
                exact y17
              · exact (w5 38 (by decide) (by decide)).trans ((vI 38 (by decide) (by decide) (by decide) (by decide)).trans i38)
              · rw [List.length_append, hLl]; omega
              · rw [tx_app, ta]; omega
              · rw [w4 68 (by decide) (by decide) (by decide) (by decide) (by decide)]; exact v3
            · rw [if_pos hbad] at eo
              exact F2 _ 20 (flI z 20 (by decide) (by decide)) eo (Fg.trans fz (Fg.i ⟨rfl, by decide⟩)) z34
          · rw [if_pos c3] at eo
            refine br_f (fun w => c3 (nI_inj (b := 0) (by omega) (by decide) w)) ?_
            unfold j_Mod_openPage_128
            have hf := flI z 19 (by decide) (by decide)
            exact s_fl1 z69 ⟨fun _ => F2 _ 19 hf eo (Fg.trans fz (Fg.i ⟨rfl, by decide⟩)) z34, fun w => absurd w hf.ne⟩
    rw [i38]
    by_cases c3 : tyC F c = 3
    · obtain ⟨t1, t2, t3, t4, t5⟩ := y15.1 c3
      refine bn_t (by rw [c3]; rfl) ?_
      rw [y12]
      refine ⟨vp_in_nI (by omega) (by omega), core _ ?_⟩
      rw [rA_nI (by omega)]
      exact t4 _ (Nat.le_refl _)
    · refine bn_f (fun z => c3 (nI_inj (b := 3) (by omega) (by decide) z)) (core 0 ?_)
      rw [oP.1 c3]
      rfl
end
