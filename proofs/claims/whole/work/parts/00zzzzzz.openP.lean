/-! a page is kept, model -/
section
variable {x : St} {F : List SFd} {Q P : List PV} {E : List SEn} {PP : List OPg} {R D : List Nat} {c row st : Nat}
theorem getD_l {α : Type} {A B : List α} {i : Nat} {d : α} (h : i < A.length) : (A ++ B).getD i d = A.getD i d := by rw [List.getD_eq_getElem?_getD, List.getElem?_append_left h, List.getD_eq_getElem?_getD]
theorem getD_r {α : Type} {A B : List α} {j : Nat} {d : α} : (A ++ B).getD (A.length + j) d = B.getD j d := by rw [List.getD_eq_getElem?_getD, List.getElem?_append_right (by omega), Nat.add_sub_cancel_left, List.getD_eq_getElem?_getD]
theorem getD_n {α : Type} {A : List α} {b d : α} : (A ++ [b]).getD A.length d = b := by
  rw [List.getD_eq_getElem?_getD, List.getElem?_append_right (Nat.le_refl _), Nat.sub_self]
  rfl
/-- one more entry -/
theorem OsM.add {y : St} {Z : List PV} {e : SEn} (h : OsM x F Q E PP) (h1 : PoM y (Q ++ Z)) (h87 : fI y 0 87 = nI (E.length + 1)) (h86 : fI y 0 86 = fI x 0 86) (hr : ∀ r i, 58 ≤ r → r ≤ 60 → i < E.length → fA y r i = fA x r i) (hp : ∀ r k, 66 ≤ r → r ≤ 74 → k < PP.length → fA y r k = fA x r k) (he : EnO y F (Q ++ Z) E.length e) : OsM y F (Q ++ Z) (E ++ [e]) PP := by
  refine ⟨h1, by rw [List.length_append]; exact h87, by rw [h86]; exact h.2.2.1, fun i hi => ?_, fun k hk => (h.2.2.2.2 k hk).cg (fun r r1 r2 => hp r k r1 r2 hk)⟩
  rw [List.length_append, show [e].length = 1 from rfl] at hi
  by_cases c : i = E.length
  · rw [c, getD_n]; exact he
  · rw [getD_l (by omega)]
    exact (h.2.2.2.1 i (by omega)).cg (fun r r1 r2 => hr r i r1 r2 (by omega))
abbrev FrOl (x y : St) : Prop := Fg (fun o k => o = 0 ∧ (k = 87 ∨ k = 93 ∨ k = 94)) no2 no2 (fun a => a = 55 ∨ a = 56 ∨ a = 57 ∨ a = 58 ∨ a = 59 ∨ a = 60 ∨ a = 68 ∨ a = 71 ∨ a = 72) (fun a => a = 54) x y
theorem s_opL {post : St → Prop} {l3 : Int32} (hL : LM x) (hv : hvN (mdC F c) D = P.length) (hty : tyC F c < 4) (hP : ∀ v, v ∈ P → okPv (tyC F c) v) (hm1 : D.length ≤ 1000) (hE : E.length + D.length ≤ 10000) (hpp : PP.length < 10000) (hD : ∀ i, i < D.length → R.getD i 0 ≤ 17 ∧ D.getD i 0 ≤ 17) (hmd : mdC F c ≤ 17) (hQ : Q.length + P.length ≤ 50000) (hoQ : oF Q Q.length + oF P P.length ≤ 160000)
    (hO : OsM x F Q E PP) (h41 : fI x 0 41 = nI D.length) (h38 : fI x 0 38 = nI (tyC F c)) (h40 : fI x 0 40 = nI (mdC F c)) (hrow : ∀ i, i < D.length → fA x 28 i = nI (R.getD i 0) ∧ fA x 29 i = nI (D.getD i 0)) (hN : NvM x (tyC F c) P) (h68 : fA x 68 PP.length = 0) (h71 : fA x 71 PP.length = -1) (h72 : fA x 72 PP.length = -1)
    (pk : ∀ u S, FrOl x u → OsM u F (Q ++ P) (E ++ entL c (mdC F c) R D P) PP → fA u 68 PP.length = nI (nR (entL c (mdC F c) R D P)) → BdO u (tyC F c) (Q ++ P) PP.length P → j_Mod_openPage_232 post S (nI c) (nI row) l3 (nI PP.length) (nI P.length) (nI D.length) u) : ∃ n : Nat, wl_Mod_openPage_232 post n (nI c) (nI row) l3 (nI PP.length) 0 0 x := by
  have n28 : fN x 28 = 1008 := hL 28
  have n29 : fN x 29 = 1008 := hL 29
  have n31 : fN x 31 = 1000 := hL 31
  have n34 : fN x 34 = 1001 := hL 34
  have n37 : fN x 37 = 20000 := hL 37
  have n58 : fN x 58 = 10000 := hL 58
  have n59 : fN x 59 = 10000 := hL 59
  have n60 : fN x 60 = 10000 := hL 60
  have n68 : fN x 68 = 10000 := hL 68
  have hPl : P.length ≤ D.length := by rw [← hv]; exact hv_le D
  refine lp_Mod_openPage_232 (fun a0 a1 a2 a3 a4 a5 u => nI c = a0 ∧ nI row = a1 ∧ l3 = a2 ∧ nI PP.length = a3 ∧ ∃ k, nI k = a5 ∧ k ≤ D.length ∧ nI (hvN (mdC F c) (D.take k)) = a4 ∧ FrOl x u ∧ OsM u F (Q ++ P.take (hvN (mdC F c) (D.take k))) (E ++ (entL c (mdC F c) R D P).take k) PP ∧ fA u 68 PP.length = nI (nR ((entL c (mdC F c) R D P).take k)) ∧ BdO u (tyC F c) (Q ++ P.take (hvN (mdC F c) (D.take k))) PP.length (P.take (hvN (mdC F c) (D.take k)))) (fun _ _ _ _ _ a5 _ => D.length - a5.toNatClampNeg) ?_ _ _ _ _ _ _ _ ⟨rfl, rfl, rfl, rfl, 0, rfl, Nat.zero_le _, rfl, Fg.refl x, ?_, h68, ?_⟩
  · rintro S a0 a1 a2 a3 a4 a5 u ⟨rfl, rfl, rfl, rfl, k, rfl, k1, rfl, f1, o1, b1, b2⟩ ih
    have uN : ∀ o, fN u o = fN x o := fun o => by show u.2.2.2.2.2 o = _; rw [f1.2.2.2.2.2]
    have uL : LM u := fun o => (uN o).trans (hL o)
    by_cases ck : k < D.length
    · have lt : ((entL c (mdC F c) R D P).take k).length = k := by rw [List.length_take, entL_len]; omega
      have hK : (E ++ (entL c (mdC F c) R D P).take k).length = E.length + k := by rw [List.length_append, lt]
      have o87 : fI u 0 87 = nI (E.length + k) := by rw [← hK]; exact o1.2.1
      obtain ⟨d1, d2⟩ := hD k ck
      obtain ⟨w1, w2⟩ := hrow k ck
      have U28 : fA u 28 = fA x 28 := f1.2.2.2.1 28 (by decide)
      have U29 : fA u 29 = fA x 29 := f1.2.2.2.1 29 (by decide)
      have vK : ∀ r, r = 58 ∨ r = 59 ∨ r = 60 → ∀ y : St, (∀ o, fN y o = fN x o) → vp_in (nI (E.length + k)) (fN y r) := fun r hr y hy => by
        rw [hy r]
        rcases hr with z | z | z <;> rw [z] <;> exact vp_in_nI (by omega) (by omega)
      have hne : ∀ r, r = 28 ∨ r = 29 → vp_in (nI k) (fN u r) := fun r hr => by
        rw [uN r]
        rcases hr with z | z <;> rw [z] <;> exact vp_in_nI (by omega) (by omega)
      unfold j_Mod_openPage_232
      rw [show fI u 0 41 = nI D.length from (f1.1 0 41 (by decide)).trans h41, o87]
      refine br_f (by (first | omega | (simp (disch := omega) only [Int32.le_iff_toInt_le, Int32.lt_iff_toInt_lt, z_eq, z_in, nI_toInt, z_cl, z_m1, z_sg, z_255, Int32.reduceToInt] <;> omega) | (simp only [Int32.le_iff_toInt_le, Int32.lt_iff_toInt_lt, z_eq, z_in, z_add, z_sub, z_mul, z_neg, z_nI, z_cl, z_sg, z_255, z_lit, Int32.reduceToInt] <;> omega))) ⟨hne 28 (Or.inl rfl), vK 58 (by decide) u uN, nm_e ?_⟩
      rw [show rA u 28 (nI k) = nI (R.getD k 0) from by rw [rA_nI (by omega), U28]; exact w1]
      refine ⟨hne 29 (Or.inr rfl), ?_⟩
      rw [show fI (setA u 58 (nI (E.length + k)) (nI (R.getD k 0))) 0 87 = nI (E.length + k) from o87, show rA (setA u 58 (nI (E.length + k)) (nI (R.getD k 0))) 29 (nI k) = nI (D.getD k 0) from by rw [rA_nI (by omega), gA_ne (by decide), U29]; exact w2]
      refine ⟨vK 59 (by decide) _ uN, nm_e ?_⟩
      rw [show fI (setA (setA u 58 (nI (E.length + k)) (nI (R.getD k 0))) 59 (nI (E.length + k)) (nI (D.getD k 0))) 0 87 = nI (E.length + k) from o87]
      refine ⟨vK 60 (by decide) _ uN, nm_e ?_⟩
      generalize hg : setA (setA (setA u 58 (nI (E.length + k)) (nI (R.getD k 0))) 59 (nI (E.length + k)) (nI (D.getD k 0))) 60 (nI (E.length + k)) (-1) = g
      have gI : ∀ o j, fI g o j = fI u o j := fun o j => by rw [← hg]; rfl
      have gL' : ∀ a, fL g a = fL u a := fun a => by rw [← hg]; rfl
      have gN : ∀ o, fN g o = fN x o := fun o => by rw [← hg]; exact uN o
      have gA' : ∀ r, r ≠ 58 → r ≠ 59 → r ≠ 60 → fA g r = fA u r := fun r r1 r2 r3 => by rw [← hg, gA_ne r3, gA_ne r2, gA_ne r1]
      have gF : ∀ r i, i ≠ E.length + k → fA g r i = fA u r i := fun r i hi => by rw [← hg, gA_off (by omega) hi, gA_off (by omega) hi, gA_off (by omega) hi]
      have g58 : fA g 58 (E.length + k) = nI (R.getD k 0) := by rw [← hg, gA_ne (by decide), gA_ne (by decide), gA_on (by omega)]
      have g59 : fA g 59 (E.length + k) = nI (D.getD k 0) := by rw [← hg, gA_ne (by decide), gA_on (by omega)]
      have g60 : fA g 60 (E.length + k) = -1 := by rw [← hg, gA_on (by omega)]
      have fg : FrOl x g := by
        rw [← hg]
        exact Fg.trans f1 (Fg.trans (Fg.a (by decide)) (Fg.trans (Fg.a (by decide)) (Fg.a (by decide))))
      clear hg
      have v68 : vp_in (nI PP.length) (fN g 68) := by rw [gN 68]; exact vp_in_nI (by omega) (by omega)
      refine ⟨v68, by rw [gN 28]; exact vp_in_nI (by omega) (by omega), ?_⟩
      rw [show rA g 28 (nI k) = nI (R.getD k 0) from by rw [rA_nI (by omega), gA' 28 (by decide) (by decide) (by decide), U28]; exact w1, show rA g 68 (nI PP.length) = nI (nR ((entL c (mdC F c) R D P).take k)) from by rw [rA_nI (by omega), gA' 68 (by decide) (by decide) (by decide)]; exact b1]
      have et := entL_take (c := c) (md := mdC F c) (R := R) (P := P) ck
      have en : nR ((entL c (mdC F c) R D P).take (k + 1)) = nR ((entL c (mdC F c) R D P).take k) + (if R.getD k 0 = 0 then 1 else 0) := by rw [et, nR_app, nR_one]; rfl
      have nl := nR_le ((entL c (mdC F c) R D P).take k)
      rw [lt] at nl
      have hk' := hvN_take (md := mdC F c) (D := D) ck
      have hvk := hv_le (md := mdC F c) (D.take k)
      rw [List.length_take] at hvk
      have ek : E ++ (entL c (mdC F c) R D P).take (k + 1) = (E ++ (entL c (mdC F c) R D P).take k) ++ [entK c (mdC F c) R D P k] := by rw [et, List.append_assoc]
      -- behind how many rows there are
      have key : ∀ s : Nat, s = (if R.getD k 0 = 0 then 1 else 0) → j_Mod_openPage_306 post S (nI c) (nI row) l3 (nI PP.length) (nI (hvN (mdC F c) (D.take k))) (nI k) (nI s) (nI (nR ((entL c (mdC F c) R D P).take k))) (nI PP.length) 68 g := fun s hs => by
        unfold j_Mod_openPage_306
        refine ⟨v68, nm_e ?_⟩
        rw [nI_add]
        generalize hb : setA g 68 (nI PP.length) (nI (nR ((entL c (mdC F c) R D P).take k) + s)) = b
        have bI : ∀ o j, fI b o j = fI g o j := fun o j => by rw [← hb]; rfl
        have bL' : ∀ a, fL b a = fL g a := fun a => by rw [← hb]; rfl
        have bN : ∀ o, fN b o = fN x o := fun o => by rw [← hb]; exact gN o
        have bA : ∀ r, r ≠ 68 → fA b r = fA g r := fun r r1 => by rw [← hb, gA_ne r1]
        have bF : ∀ r i, i ≠ PP.length → fA b r i = fA g r i := fun r i hi => by rw [← hb, gA_off (by omega) hi]
        have b68 : fA b 68 PP.length = nI (nR ((entL c (mdC F c) R D P).take (k + 1))) := by rw [← hb, gA_on (by omega), en, hs]
        have fb : FrOl x b := by
          rw [← hb]
          exact Fg.trans fg (Fg.a (by decide))
        clear hb
        have b29 : fA b 29 = fA x 29 := by rw [bA 29 (by decide), gA' 29 (by decide) (by decide) (by decide), U29]
        have i38 : fI b 0 38 = nI (tyC F c) := (fb.1 0 38 (by decide)).trans h38
        have bLM : LM b := fun o => (bN o).trans (hL o)
        refine ⟨by rw [bN 29]; exact vp_in_nI (by omega) (by omega), ?_⟩
        rw [show rA b 29 (nI k) = nI (D.getD k 0) from by rw [rA_nI (by omega), b29]; exact w2, show fI b 0 40 = nI (mdC F c) from (fb.1 0 40 (by decide)).trans h40, i38]
        have bPo : PoM b (Q ++ P.take (hvN (mdC F c) (D.take k))) := o1.1.cg ((bI 0 93).trans (gI 0 93)) ((bI 0 94).trans (gI 0 94)) ((bL' 54).trans (gL' 54)) ((bA 55 (by decide)).trans (gA' 55 (by decide) (by decide) (by decide))) ((bA 56 (by decide)).trans (gA' 56 (by decide) (by decide) (by decide))) ((bA 57 (by decide)).trans (gA' 57 (by decide) (by decide) (by decide)))
        have i87 : fI b 0 87 = nI (E.length + k) := (bI 0 87).trans ((gI 0 87).trans o87)
        -- to the next entry
        have nx : ∀ (y : St) Z l5, FrOl b y → l5 = nI (hvN (mdC F c) (D.take (k + 1))) → (∀ i, i < E.length + k → fA y 60 i = fA b 60 i) → fA y 58 = fA b 58 → fA y 59 = fA b 59 → fI y 0 87 = fI b 0 87 → (∀ k', k' ≠ PP.length → fA y 71 k' = fA b 71 k' ∧ fA y 72 k' = fA b 72 k') → fA y 68 = fA b 68 → PoM y (Q ++ P.take (hvN (mdC F c) (D.take k)) ++ Z) → Q ++ P.take (hvN (mdC F c) (D.take k)) ++ Z = Q ++ P.take (hvN (mdC F c) (D.take (k + 1))) → (D.getD k 0 = mdC F c → ∃ a, a < (Q ++ P.take (hvN (mdC F c) (D.take k)) ++ Z).length ∧ fA y 60 (E.length + k) = nI a ∧ pvd (Q ++ P.take (hvN (mdC F c) (D.take k)) ++ Z) a = pvd P (hvN (mdC F c) (D.take k))) → (D.getD k 0 ≠ mdC F c → fA y 60 (E.length + k) = -1) → BdO y (tyC F c) (Q ++ P.take (hvN (mdC F c) (D.take k)) ++ Z) PP.length (P.take (hvN (mdC F c) (D.take (k + 1)))) → j_Mod_openPage_501 post S (nI c) (nI row) l3 (nI PP.length) l5 (nI k) y := fun y Z l5 y1 y2 y3 y4 y5 y6 y7 y8 y9 y10 y11 y12 y13 => by
          unfold j_Mod_openPage_501
          refine nm_e ?_
          rw [y6, i87, nI_1, nI_1, y2]
          have yb : ∀ r, 66 ≤ r → r ≤ 74 → ∀ k', k' ≠ PP.length → fA y r k' = fA u r k' := fun r r1 r2 k' hk' => by
            have e : fA y r k' = fA b r k' := by
              by_cases c1 : r = 71
              · rw [c1]; exact (y7 k' hk').1
              · by_cases c2 : r = 72
                · rw [c2]; exact (y7 k' hk').2
                · by_cases c3 : r = 68
                  · rw [c3, y8]
                  · rw [show fA y r = fA b r from y1.2.2.2.1 r (by omega)]
            rw [e, bF r k' hk', gA' r (by omega) (by omega) (by omega)]
          have ye : ∀ r, 58 ≤ r → r ≤ 60 → ∀ i, i < E.length + k → fA y r i = fA u r i := fun r r1 r2 i hi => by
            have e : fA y r i = fA b r i := by
              by_cases c1 : r = 60
              · rw [c1]; exact y3 i hi
              · by_cases c2 : r = 58
                · rw [c2, y4]
                · rw [show r = 59 by omega, y5]
            rw [e, bA r (by omega), gF r i (by omega)]
          refine ih _ _ _ _ _ _ _ ⟨rfl, rfl, rfl, rfl, k + 1, rfl, by omega, rfl, Fg.trans fb (Fg.trans y1 (Fg.i ⟨rfl, by decide⟩)), ?_, ?_, ?_⟩ (by rw [nI_clamp (by omega), nI_clamp (by omega)]; omega)
          · rw [← y10, ek]
            refine OsM.add o1 (y9.cg (gI_ne (by decide)) (gI_ne (by decide)) rfl rfl rfl rfl) (by rw [hK, Nat.add_assoc]; exact gI_at) ?_ (fun r i r1 r2 hi => ye r r1 r2 i (by omega)) (fun r k' r1 r2 hk' => yb r r1 r2 k' (by omega)) ?_
            · exact (gI_ne (by decide)).trans ((y1.1 0 86 (by decide)).trans ((bI 0 86).trans (gI 0 86)))
            · rw [hK]
              refine ⟨?_, ?_, fun z => ?_, fun z => y12 z⟩
              · show fA y 58 _ = nI (R.getD k 0)
                rw [y4, bA 58 (by decide)]; exact g58
              · show fA y 59 _ = nI (D.getD k 0)
                rw [y5, bA 59 (by decide)]; exact g59
              · obtain ⟨a, a1, a2, a3⟩ := y11 z
                refine ⟨a, a1, a2, ?_⟩
                rw [a3]
                show _ = if D.getD k 0 = mdC F c then _ else _
                rw [if_pos (show D.getD k 0 = mdC F c from z)]
          · show fA y 68 PP.length = _
            rw [y8]; exact b68
          · rw [← y10]
            exact y13
        by_cases cd : D.getD k 0 = mdC F c
        · rw [if_pos cd] at hk'
          have hvl := hv_lt (md := mdC F c) ck cd
          refine bn_t (by rw [cd]) ?_
          have vp : okPv (tyC F c) (pvd P (hvN (mdC F c) (D.take k))) := hP _ (pvd_mem (by omega))
          have bBd : BdO b (tyC F c) (Q ++ P.take (hvN (mdC F c) (D.take k))) PP.length (P.take (hvN (mdC F c) (D.take k))) := by
            have := b2.cg (y := b) (Z := []) (by rw [bA 71 (by decide), gA' 71 (by decide) (by decide) (by decide)]) (by rw [bA 72 (by decide), gA' 72 (by decide) (by decide) (by decide)])
            rw [List.append_nil] at this
            exact this
          have lq : (Q ++ P.take (hvN (mdC F c) (D.take k))).length = Q.length + hvN (mdC F c) (D.take k) := by rw [List.length_append, List.length_take]; omega
          have oq : ∀ j, j ≤ P.length → oF (Q ++ P.take j) (Q ++ P.take j).length = oF Q Q.length + oF P j := by
            intro j
            induction j with
            | zero => intro _; rw [List.take_zero, List.append_nil]; rfl
            | succ j ih =>
              intro hj
              rw [pv_take (by omega), ← List.append_assoc, List.length_append (as := Q ++ P.take j), show [pvd P j].length = 1 from rfl, oF_a2, ih (by omega)]
              show _ = oF Q Q.length + (oF P j + (pvd P j).2.length)
              omega
          have oP1 : oF P (hvN (mdC F c) (D.take k) + 1) = oF P (hvN (mdC F c) (D.take k)) + (pvd P (hvN (mdC F c) (D.take k))).2.length := rfl
          have oP2 := oF_le (P := P) (show hvN (mdC F c) (D.take k) + 1 ≤ P.length by omega)
          have call : ∀ fr, (∀ j, j < (pvd P (hvN (mdC F c) (D.take k))).2.length → vp_in (fr + nI j) (fN b 37) ∧ rA b 37 (fr + nI j) = (pvd P (hvN (mdC F c) (D.take k))).2.getD j 0) → j_Mod_openPage_382 post S (nI c) (nI row) l3 (nI PP.length) (nI (hvN (mdC F c) (D.take k))) (nI k) (nI (pvd P (hvN (mdC F c) (D.take k))).2.length) fr 37 (pvd P (hvN (mdC F c) (D.take k))).1 b := fun fr hfr => by
            refine s_keepV bLM bPo (by omega) (by rw [oq _ (by omega)]; omega) hty i87 (by omega) hpp i38 bBd vp (fun u hu => hP u (List.mem_of_mem_take hu)) hfr (fun y y1 y2 y3 y4 y5 y6 => ?_)
            have tk : Q ++ P.take (hvN (mdC F c) (D.take k)) ++ [pvd P (hvN (mdC F c) (D.take k))] = Q ++ P.take (hvN (mdC F c) (D.take (k + 1))) := by rw [hk', pv_take (by omega), List.append_assoc]
            refine nx y [pvd P (hvN (mdC F c) (D.take k))] _ (y1.mono (fun _ _ z => ⟨z.1, by omega⟩) (fun _ _ z => z) (fun _ _ z => z) (fun _ z => by omega) (fun _ z => z)) (by rw [hk', nI_1]) (fun i hi => y2 i (by omega)) (y1.2.2.2.1 58 (by decide)) (y1.2.2.2.1 59 (by decide)) (y1.1 0 87 (by decide)) y4 (y1.2.2.2.1 68 (by decide)) y5 tk (fun _ => ⟨_, ?_, y3, pvd_a2⟩) (fun z => absurd cd z) ?_
            · rw [List.length_append (as := Q ++ P.take _)]
              exact Nat.lt_succ_self _
            · rw [hk', pv_take (by omega)]
              exact y6
          have c342 : ∀ s, s = (pvd P (hvN (mdC F c) (D.take k))).1 → j_Mod_openPage_342 post S (nI c) (nI row) l3 (nI PP.length) (nI (hvN (mdC F c) (D.take k))) (nI k) s b := fun s hs => by
            unfold j_Mod_openPage_342
            rw [i38, hs]
            refine ⟨by rw [bN 34]; exact vp_in_nI (by omega) (by omega), ?_⟩
            by_cases c3 : tyC F c = 3
            · refine bn_t (by rw [c3]; rfl) ⟨by rw [bN 34, nI_1]; exact vp_in_nI (by omega) (by omega), by rw [bN 34]; exact vp_in_nI (by omega) (by omega), ?_⟩
              obtain ⟨t1, t2, t3, t4, t5⟩ := hN.1 c3
              have b34 : fA b 34 = fA x 34 := fb.2.2.2.1 34 (by decide)
              have b37 : fA b 37 = fA x 37 := fb.2.2.2.1 37 (by decide)
              rw [nI_1, rA_nI (by omega), rA_nI (by omega), b34, t4 _ (by omega), t4 _ (by omega), nI_sub (oF_le (by omega)), oP1, Nat.add_sub_cancel_left]
              refine call _ (fun j hj => ?_)
              rw [nI_add, bN 37]
              refine ⟨vp_in_nI (by omega) (by omega), ?_⟩
              rw [rA_nI (by omega), b37]
              exact t5 _ (by omega) j hj
            · have e0 : (pvd P (hvN (mdC F c) (D.take k))).2 = [] := vp.2.1 c3
              refine bn_f (fun z => c3 (nI_inj (b := 3) (by omega) (by decide) z)) ?_
              have := call (rA b 34 (nI (hvN (mdC F c) (D.take k)))) (fun j hj => by rw [e0] at hj; exact absurd hj (Nat.not_lt_zero _))
              rw [e0] at this
              exact this
          by_cases c3 : tyC F c = 3
          · refine bn_t (by rw [c3]; rfl) (c342 0 ?_)
            exact (vp.1 c3).2.symm
          · refine bn_f (fun z => c3 (nI_inj (b := 3) (by omega) (by decide) z)) ⟨by rw [bN 31]; exact vp_in_nI (by omega) (by omega), c342 _ ?_⟩
            rw [rL_nI (by omega), show fL b 31 = fL x 31 from fb.2.2.2.2.1 31 (by decide)]
            exact hN.2 c3 _ (by omega)
        · rw [if_neg cd] at hk'
          have hk' : hvN (mdC F c) (D.take (k + 1)) = hvN (mdC F c) (D.take k) := hk'
          refine bn_f (fun z => cd (nI_inj (by omega) (by omega) z)) ?_
          refine nx b [] _ (Fg.refl b) (by rw [hk']) (fun _ _ => rfl) rfl rfl rfl (fun _ _ => ⟨rfl, rfl⟩) rfl (by rw [List.append_nil]; exact bPo) (by rw [List.append_nil, hk']) (fun z => absurd z cd) (fun _ => ?_) ?_
          · rw [bA 60 (by decide)]; exact g60
          · rw [hk']
            exact b2.cg (by rw [bA 71 (by decide), gA' 71 (by decide) (by decide) (by decide)]) (by rw [bA 72 (by decide), gA' 72 (by decide) (by decide) (by decide)])
      by_cases cr : R.getD k 0 = 0
      · exact bn_t (by rw [cr]; rfl) (key 1 (by rw [if_pos cr]))
      · exact bn_f (fun z => cr (nI_inj (b := 0) (by omega) (by decide) z)) (key 0 (by rw [if_neg cr]))
    · have ek : k = D.length := by omega
      subst ek
      rw [List.take_length, hv] at o1 b2 ⊢
      have eL : (entL c (mdC F c) R D P).take D.length = entL c (mdC F c) R D P := List.take_of_length_le (by rw [entL_len]; exact Nat.le_refl _)
      have eP : P.take P.length = P := List.take_length
      rw [eL] at o1 b1
      rw [eP] at o1 b2
      exact pk u S f1 o1 b1 b2
  · rw [List.take_zero, show hvN (mdC F c) [] = 0 from rfl, List.take_zero, List.take_zero, List.append_nil, List.append_nil]
    exact hO
  · rw [List.take_zero, show hvN (mdC F c) [] = 0 from rfl, List.take_zero, List.append_nil]
    exact ⟨fun _ => ⟨h71, h72⟩, fun z => absurd rfl z⟩
end
