/-! the model writes a chunk -/
theorem ch_len {RS : List (List SEn)} {ty mr md c most to : Nat} (hb : ∀ r e, r ≤ e → e ≤ to → (cs RS c r e).length ≤ 1000 → txI RS.flatten (cs RS c r e) ≤ 20000 → (pgB RS ty mr md (cs RS c r e)).length ≤ 34100) (hm : most ≤ 1000) (h1 : ∀ r, r < to → txI RS.flatten (cs RS c r (r + 1)) ≤ 20000) : ∀ d r B k, chF RS ty mr md c most to d r = some (B, k) → B.length ≤ 34100 * d ∧ k ≤ d := by
  intro d
  induction d with
  | zero =>
    intro r B k h
    have := Option.some.inj h
    rw [← (Prod.mk.inj this).1, ← (Prod.mk.inj this).2]
    exact ⟨Nat.zero_le _, Nat.zero_le _⟩
  | succ d ih =>
    intro r B k h
    simp only [chF] at h
    split at h
    · have := Option.some.inj h
      rw [← (Prod.mk.inj this).1, ← (Prod.mk.inj this).2]
      exact ⟨Nat.zero_le _, Nat.zero_le _⟩
    · rename_i c1
      split at h
      · exact absurd h (by simp)
      · rename_i c2
        split at h
        · exact absurd h (by simp)
        · rename_i B' k' e
          have q := ih _ _ _ e
          have := Option.some.inj h
          rw [← (Prod.mk.inj this).1, ← (Prod.mk.inj this).2, List.length_append]
          have pe := peF_bd (RS := RS) (c := c) (most := most) (r := r) (to - (r + 1)) (r + 1)
          have po := peF_ok (RS := RS) (c := c) (most := most) (r := r) hm (to - (r + 1)) (r + 1) ⟨by omega, h1 r (by omega)⟩
          have := hb r _ (by omega) (by omega) po.1 po.2
          omega
theorem chF_fuel {RS : List (List SEn)} {ty mr md c most to : Nat} : ∀ d r, to ≤ r + d → chF RS ty mr md c most to d r = chF RS ty mr md c most to (to - r) r := by
  intro d
  induction d using Nat.strongRecOn with
  | ind d ih =>
    intro r h
    by_cases c1 : to ≤ r
    · have e : ∀ d, chF RS ty mr md c most to d r = some ([], 0) := fun d => by
        cases d with
        | zero => rfl
        | succ d => simp only [chF]; exact if_pos c1
      rw [e, e]
    · obtain ⟨d', rfl⟩ : ∃ d', d = d' + 1 := ⟨d - 1, by omega⟩
      obtain ⟨t, ht⟩ : ∃ t, to - r = t + 1 := ⟨to - r - 1, by omega⟩
      rw [ht]
      have pe := peF_bd (RS := RS) (c := c) (most := most) (r := r) (to - (r + 1)) (r + 1)
      simp only [chF]
      rw [ih d' (by omega) _ (by omega), ih t (by omega) _ (by omega)]
theorem s_writeChunk {post : Int32 → St → Prop} {x : St} {F : List SFd} {RS : List (List SEn)} {c fr to ty most wh : Nat} {W : List Nat} (hL : LM x) (hw : WfS F) (hR : RepM x 0 F) (hc : c < ncol F) (hc64 : c < 64) (hty4 : ty < 4) (hty : fTy F (lfC F c) = nI ty) (h : RcM x RS) (h33 : fA x 33 0 = 0) (hft : fr ≤ to) (hto : to ≤ RS.length) (hwh : wh < 13400) (hm1 : 1 ≤ most) (hm : most ≤ 1000) (hcl : ∀ i, i < RS.flatten.length → (en RS.flatten i).1 < 64 ∧ (en RS.flatten i).2.2.1 < 128) (hmr : rF F (lfC F c) ≤ 17) (hmd : dG F (nI (lfC F c)) ≤ 17)
    (h1 : ∀ r, r < to → txI RS.flatten (cs RS c r (r + 1)) ≤ 20000) (hok : ∀ r e, r ≤ e → e ≤ to → (cs RS c r e).length ≤ 1000 → okP ty (pvs RS.flatten (vs RS.flatten (dG F (nI (lfC F c))) (cs RS c r e)))) (hoF : ∀ r e, r ≤ e → e ≤ to → oF (pvs RS.flatten (vs RS.flatten (dG F (nI (lfC F c))) (cs RS c r e))) (pvs RS.flatten (vs RS.flatten (dG F (nI (lfC F c))) (cs RS c r e))).length ≤ txI RS.flatten (cs RS c r e)) (hWk : Wk x W) (hWl : W.length ≤ 40000)
    (p0 : ∀ y, FrCk x y → fA y 33 0 = 0 → chF RS ty (rF F (lfC F c)) (dG F (nI (lfC F c))) c most to (to - fr) fr = none → post 0 y)
    (p1 : ∀ y B k, FrCk x y → fA y 33 0 = 0 → chF RS ty (rF F (lfC F c)) (dG F (nI (lfC F c))) c most to (to - fr) fr = some (B, k) → Wk y (W ++ B) → (∀ i, fA y 50 i = if i = wh then nI B.length else fA x 50 i) → (∀ i, fA y 51 i = if i = wh then nI k else fA x 51 i) → post 1 y) : wp_Mod_writeChunk post (nI wh) (nI c) (nI fr) (nI to) (nI most) x := by
  have h4 := h.2.2.2.1
  have bdl : ∀ r e, r ≤ e → e ≤ to → (cs RS c r e).length ≤ 1000 → txI RS.flatten (cs RS c r e) ≤ 20000 → (pgB RS ty (rF F (lfC F c)) (dG F (nI (lfC F c))) (cs RS c r e)).length ≤ 34100 := fun r e a b d g => by
    have pl := pvs_len (E := RS.flatten) (l := vs RS.flatten (dG F (nI (lfC F c))) (cs RS c r e))
    have vle := vs_le (E := RS.flatten) (md := dG F (nI (lfC F c))) (es := cs RS c r e)
    exact page_len (hok r e a b d) (by omega) (Nat.le_trans (hoF r e a b) g) hmr hmd d
  have chl := ch_len (ty := ty) (mr := rF F (lfC F c)) (md := dG F (nI (lfC F c))) (most := most) bdl hm h1
  have e50 : fN x 50 = 13400 := hL 50
  have e51 : fN x 51 = 13400 := hL 51
  unfold wp_Mod_writeChunk
  rw [hWk.1]
  refine nm_e ⟨vp_in_nI (by omega) (by omega), nm_e ?_⟩
  refine lp_Mod_writeChunk_16 (fun a0 a1 a2 a3 a4 a5 a6 y => nI wh = a0 ∧ nI c = a1 ∧ nI to = a3 ∧ nI most = a4 ∧ nI W.length = a5 ∧ ∃ r B k, nI r = a6 ∧ fr ≤ r ∧ r ≤ to ∧ FrCk x y ∧ fA y 33 0 = 0 ∧ Wk y (W ++ B) ∧ B.length ≤ 34100 * (r - fr) ∧ k ≤ r - fr ∧ fA y 50 = fA x 50 ∧ (∀ i, fA y 51 i = if i = wh then nI k else fA x 51 i) ∧ chF RS ty (rF F (lfC F c)) (dG F (nI (lfC F c))) c most to (to - fr) fr = (match chF RS ty (rF F (lfC F c)) (dG F (nI (lfC F c))) c most to (to - r) r with | none => none | some (B', k') => some (B ++ B', k + k'))) (fun _ _ _ _ _ _ a6 _ => to - a6.toNatClampNeg) ?_ _ _ _ _ _ _ _ _ ⟨rfl, rfl, rfl, rfl, rfl, fr, [], 0, rfl, Nat.le_refl _, hft, Fg.a (by decide), ?_, ?_, Nat.zero_le _, Nat.zero_le _, ?_, fun i => ?_, ?_⟩
  · rintro Q a0 a1 a2 a3 a4 a5 a6 y ⟨rfl, rfl, rfl, rfl, rfl, r, B, k, rfl, r1, r2, y1, y33, yW, yB, yk, y50, y51, yc⟩ ih
    have hLy := y1.lm hL
    have hRy := y1.rc h
    have hSy := y1.rep hR
    have f50 : fN y 50 = 13400 := hLy 50
    unfold j_Mod_writeChunk_16
    by_cases cr : r < to
    · refine br_f (by (first | omega | (simp (disch := omega) only [Int32.le_iff_toInt_le, Int32.lt_iff_toInt_lt, z_eq, z_in, nI_toInt, z_cl, z_m1, z_sg, z_255, Int32.reduceToInt] <;> omega) | (simp only [Int32.le_iff_toInt_le, Int32.lt_iff_toInt_lt, z_eq, z_in, z_add, z_sub, z_mul, z_neg, z_nI, z_cl, z_sg, z_255, z_lit, Int32.reduceToInt] <;> omega))) (nm_r (nI_1 _) ?_)
      refine s_many hLy hRy hc64 (by omega) (by omega) (fun i hi => (hcl i hi).1) (s_textsOf hLy hRy hc64 (by omega) (by omega) (fun i hi => (hcl i hi).1) ?_)
      have ec : ∀ r e, sg RS.flatten c (RS.take r).flatten.length ((RS.take e).flatten.length - (RS.take r).flatten.length) = cs RS c r e := fun _ _ => rfl
      rw [ec]
      have csl : ∀ r e, (cs RS c r e).length ≤ 10000 := fun r e => by
        have a := sg_le (E := RS.flatten) (c := c) (a := rA0 RS r) (rA0 RS e - rA0 RS r)
        have b : rA0 RS e ≤ RS.flatten.length := rw_le
        have := hRy.2.1.1
        show (sg RS.flatten c (rA0 RS r) (rA0 RS e - rA0 RS r)).length ≤ _
        omega
      have cst : ∀ r e, r ≤ e → txI RS.flatten (cs RS c r e) ≤ 60000 := fun r e hre => by
        have a : rA0 RS r ≤ rA0 RS e := rw_mono hre
        have b : rA0 RS e ≤ RS.flatten.length := rw_le
        have q := txI_tx (E := RS.flatten) (c := c) (a := rA0 RS r) (rA0 RS e - rA0 RS r) (by omega)
        have q2 := tx_take (E := RS.flatten) (i := rA0 RS r + (rA0 RS e - rA0 RS r))
        have := hRy.2.1.2
        show txI RS.flatten (sg RS.flatten c (rA0 RS r) (rA0 RS e - rA0 RS r)) ≤ _
        omega
      obtain ⟨t, ht⟩ : ∃ t, to - r = t + 1 := ⟨to - r - 1, by omega⟩
      have l1 := csl r (r + 1)
      by_cases c1 : (cs RS c r (r + 1)).length ≤ 1000
      · refine br_t (by (first | omega | (simp (disch := omega) only [Int32.le_iff_toInt_le, Int32.lt_iff_toInt_lt, z_eq, z_in, nI_toInt, z_cl, z_m1, z_sg, z_255, Int32.reduceToInt] <;> omega) | (simp only [Int32.le_iff_toInt_le, Int32.lt_iff_toInt_lt, z_eq, z_in, z_add, z_sub, z_mul, z_neg, z_nI, z_cl, z_sg, z_255, z_lit, Int32.reduceToInt] <;> omega))) ?_
        have c1' := h1 r cr
        have pe := peF_bd (RS := RS) (c := c) (most := most) (r := r) (to - (r + 1)) (r + 1)
        have po := peF_ok (RS := RS) (c := c) (most := most) (r := r) hm (to - (r + 1)) (r + 1) ⟨c1, c1'⟩
        -- the page
        have fin : ∀ e l9 l10, e = peF RS c most r (to - (r + 1)) (r + 1) → j_Mod_writeChunk_124 post Q (nI wh) (nI c) a2 (nI to) (nI most) (nI W.length) (nI r) (nI e) l9 l10 y := fun e l9 l10 ee => by
          rw [← ee] at pe po
          unfold j_Mod_writeChunk_124
          have wl : (W ++ B).length ≤ 2 ^ 28 := by
            rw [List.length_append]
            have : 34100 * (r - fr) ≤ 34100 * 2000 := Nat.mul_le_mul_left _ (by omega)
            omega
          refine s_pageM (F := F) (RS := RS) (c := c) (r := r) (e := e) (ty := ty) (W := W ++ B) hLy hw hSy hc hc64 hty4 hty hRy y33 (by omega) (by omega) hcl hmr hmd po.1 po.2 (hok r e (by omega) (by omega) po.1) (Nat.le_trans (hoF r e (by omega) (by omega)) po.2) yW wl (fun z z1 z2 z3 z4 => ?_)
          have hLz := z1.lm hLy
          have g51 : fN z 51 = 13400 := hLz 51
          have k51 : rA z 51 (nI wh) = nI k := by
            rw [rA_nI (by omega), z2 51 (Or.inr rfl), y51, if_pos rfl]
          refine ⟨vp_in_nI (by omega) (by omega), vp_in_nI (by omega) (by omega), nm_e ?_⟩
          rw [k51, nI_1]
          have bl := bdl r e (by omega) (by omega) po.1 po.2
          refine ih _ _ _ _ _ _ _ _ ⟨rfl, rfl, rfl, rfl, rfl, e, B ++ pgB RS ty (rF F (lfC F c)) (dG F (nI (lfC F c))) (cs RS c r e), k + 1, rfl, by omega, by omega, Fg.trans y1 (Fg.trans z1 (Fg.a (by decide))), ?_, ?_, ?_, by omega, ?_, fun i => ?_, ?_⟩ (by rw [nI_clamp (by omega), nI_clamp (by omega)]; omega)
          · show fA (setA z 51 _ _) 33 0 = 0
            rw [gA_ne (by decide)]; exact z3
          · rw [← List.append_assoc]
            exact z4.cg rfl (gA_ne (by decide)) rfl
          · rw [List.length_append]
            have : 34100 * (r - fr) + 34100 * (e - r) = 34100 * (e - fr) := by rw [← Nat.mul_add]; congr 1; omega
            have : 34100 * 1 ≤ 34100 * (e - r) := Nat.mul_le_mul_left _ (by omega)
            omega
          · exact (gA_ne (by decide)).trans ((z2 50 (Or.inl rfl)).trans y50)
          · rw [gA_at, nI_clamp (by omega)]
            by_cases q : i = wh
            · rw [q, upd_at, if_pos rfl]
            · rw [upd_ne q, if_neg q, z2 51 (Or.inr rfl), y51, if_neg q]
          · rw [yc, ht]
            simp only [chF]
            rw [if_neg (by omega), if_neg (by omega), ← ee, chF_fuel t e (by omega)]
            cases chF RS ty (rF F (lfC F c)) (dG F (nI (lfC F c))) c most to (to - e) e with
            | none => rfl
            | some v =>
              show some (B ++ (_ ++ v.1), k + (v.2 + 1)) = some (B ++ _ ++ v.1, k + 1 + v.2)
              rw [List.append_assoc, show k + (v.2 + 1) = k + 1 + v.2 by omega]
        refine lp_Mod_writeChunk_61 (fun b0 b1 b2 b3 b4 b5 b6 b7 b8 b9 z => nI wh = b0 ∧ nI c = b1 ∧ a2 = b2 ∧ nI to = b3 ∧ nI most = b4 ∧ nI W.length = b5 ∧ nI r = b6 ∧ y = z ∧ ∃ e, nI e = b7 ∧ r + 1 ≤ e ∧ e ≤ to ∧ nI (cs RS c r e).length = b8 ∧ nI (txI RS.flatten (cs RS c r e)) = b9 ∧ peF RS c most r (to - (r + 1)) (r + 1) = peF RS c most r (to - e) e) (fun _ _ _ _ _ _ _ b7 _ _ _ => to - b7.toNatClampNeg) ?_ _ _ _ _ _ _ _ _ _ _ _ ⟨rfl, rfl, rfl, rfl, rfl, rfl, rfl, rfl, r + 1, rfl, Nat.le_refl _, by omega, rfl, rfl, rfl⟩
        rintro Q' b0 b1 b2 b3 b4 b5 b6 b7 b8 b9 z ⟨rfl, rfl, rfl, rfl, rfl, rfl, rfl, rfl, e, rfl, e1, e2, rfl, rfl, e3⟩ ih'
        unfold j_Mod_writeChunk_61
        by_cases ce : e < to
        · refine br_f (by (first | omega | (simp (disch := omega) only [Int32.le_iff_toInt_le, Int32.lt_iff_toInt_lt, z_eq, z_in, nI_toInt, z_cl, z_m1, z_sg, z_255, Int32.reduceToInt] <;> omega) | (simp only [Int32.le_iff_toInt_le, Int32.lt_iff_toInt_lt, z_eq, z_in, z_add, z_sub, z_mul, z_neg, z_nI, z_cl, z_sg, z_255, z_lit, Int32.reduceToInt] <;> omega))) ?_
          rw [nI_1]
          refine s_many hLy hRy hc64 (by omega) (by omega) (fun i hi => (hcl i hi).1) ?_
          rw [ec]
          have ca := cs_add (RS := RS) (c := c) (r := r) (m := e) (e := e + 1) (by omega) (by omega)
          have ea : (cs RS c r e).length + (cs RS c e (e + 1)).length = (cs RS c r (e + 1)).length := by rw [ca, List.length_append]
          have et : txI RS.flatten (cs RS c r e) + txI RS.flatten (cs RS c e (e + 1)) = txI RS.flatten (cs RS c r (e + 1)) := by rw [ca, txI_a]
          refine nm_r (e' := nI (cs RS c r (e + 1)).length) (by rw [nI_add, ea]) ?_
          refine s_textsOf hLy hRy hc64 (by omega) (by omega) (fun i hi => (hcl i hi).1) ?_
          rw [ec]
          refine nm_r (e' := nI (txI RS.flatten (cs RS c r (e + 1)))) (by rw [nI_add, et]) ?_
          have ll := csl r (e + 1)
          have lt := cst r (e + 1) (by omega)
          obtain ⟨q, hq⟩ : ∃ q, to - e = q + 1 := ⟨to - e - 1, by omega⟩
          have eq : to - (e + 1) = q := by omega
          rw [hq] at e3
          simp only [peF] at e3
          by_cases d1 : most < (cs RS c r (e + 1)).length
          · refine br_t (by (first | omega | (simp (disch := omega) only [Int32.le_iff_toInt_le, Int32.lt_iff_toInt_lt, z_eq, z_in, nI_toInt, z_cl, z_m1, z_sg, z_255, Int32.reduceToInt] <;> omega) | (simp only [Int32.le_iff_toInt_le, Int32.lt_iff_toInt_lt, z_eq, z_in, z_add, z_sub, z_mul, z_neg, z_nI, z_cl, z_sg, z_255, z_lit, Int32.reduceToInt] <;> omega))) (fin e _ _ ?_)
            rw [e3, if_neg (by omega)]
          · refine br_f (by (first | omega | (simp (disch := omega) only [Int32.le_iff_toInt_le, Int32.lt_iff_toInt_lt, z_eq, z_in, nI_toInt, z_cl, z_m1, z_sg, z_255, Int32.reduceToInt] <;> omega) | (simp only [Int32.le_iff_toInt_le, Int32.lt_iff_toInt_lt, z_eq, z_in, z_add, z_sub, z_mul, z_neg, z_nI, z_cl, z_sg, z_255, z_lit, Int32.reduceToInt] <;> omega))) ?_
            by_cases d2 : txI RS.flatten (cs RS c r (e + 1)) ≤ 20000
            · refine br_t (by (first | omega | (simp (disch := omega) only [Int32.le_iff_toInt_le, Int32.lt_iff_toInt_lt, z_eq, z_in, nI_toInt, z_cl, z_m1, z_sg, z_255, Int32.reduceToInt] <;> omega) | (simp only [Int32.le_iff_toInt_le, Int32.lt_iff_toInt_lt, z_eq, z_in, z_add, z_sub, z_mul, z_neg, z_nI, z_cl, z_sg, z_255, z_lit, Int32.reduceToInt] <;> omega))) (ih' _ _ _ _ _ _ _ _ _ _ _ ⟨rfl, rfl, rfl, rfl, rfl, rfl, rfl, rfl, e + 1, rfl, by omega, by omega, rfl, rfl, ?_⟩ (by rw [nI_clamp (by omega), nI_clamp (by omega)]; omega))
              rw [e3, if_pos ⟨by omega, d2⟩, eq]
            · refine br_f (by (first | omega | (simp (disch := omega) only [Int32.le_iff_toInt_le, Int32.lt_iff_toInt_lt, z_eq, z_in, nI_toInt, z_cl, z_m1, z_sg, z_255, Int32.reduceToInt] <;> omega) | (simp only [Int32.le_iff_toInt_le, Int32.lt_iff_toInt_lt, z_eq, z_in, z_add, z_sub, z_mul, z_neg, z_nI, z_cl, z_sg, z_255, z_lit, Int32.reduceToInt] <;> omega))) (fin e _ _ ?_)
              rw [e3, if_neg (fun w => d2 w.2)]
        · refine br_t (by (first | omega | (simp (disch := omega) only [Int32.le_iff_toInt_le, Int32.lt_iff_toInt_lt, z_eq, z_in, nI_toInt, z_cl, z_m1, z_sg, z_255, Int32.reduceToInt] <;> omega) | (simp only [Int32.le_iff_toInt_le, Int32.lt_iff_toInt_lt, z_eq, z_in, z_add, z_sub, z_mul, z_neg, z_nI, z_cl, z_sg, z_255, z_lit, Int32.reduceToInt] <;> omega))) (fin e _ _ ?_)
          rw [e3, show to - e = 0 by omega]
          rfl
      · refine br_f (by (first | omega | (simp (disch := omega) only [Int32.le_iff_toInt_le, Int32.lt_iff_toInt_lt, z_eq, z_in, nI_toInt, z_cl, z_m1, z_sg, z_255, Int32.reduceToInt] <;> omega) | (simp only [Int32.le_iff_toInt_le, Int32.lt_iff_toInt_lt, z_eq, z_in, z_add, z_sub, z_mul, z_neg, z_nI, z_cl, z_sg, z_255, z_lit, Int32.reduceToInt] <;> omega))) (p0 y y1 y33 ?_)
        rw [yc, ht]
        simp only [chF]
        rw [if_neg (by omega), if_pos (by omega)]
    · have er : r = to := by omega
      subst er
      refine br_t (by (first | omega | (simp (disch := omega) only [Int32.le_iff_toInt_le, Int32.lt_iff_toInt_lt, z_eq, z_in, nI_toInt, z_cl, z_m1, z_sg, z_255, Int32.reduceToInt] <;> omega) | (simp only [Int32.le_iff_toInt_le, Int32.lt_iff_toInt_lt, z_eq, z_in, z_add, z_sub, z_mul, z_neg, z_nI, z_cl, z_sg, z_255, z_lit, Int32.reduceToInt] <;> omega))) ⟨vp_in_nI (by omega) (by omega), nm_e ?_⟩
      have bb : 34100 * (r - fr) ≤ 34100 * 2000 := Nat.mul_le_mul_left _ (by omega)
      rw [yW.1, List.length_append, nI_sub (by omega), Nat.add_sub_cancel_left]
      refine p1 _ B k (Fg.trans y1 (Fg.a (by decide))) ?_ ?_ ?_ (fun i => ?_) (fun i => ?_)
      · rw [gA_ne (by decide)]; exact y33
      · rw [yc, Nat.sub_self]
        show some (B ++ [], k + 0) = _
        rw [List.append_nil]
        rfl
      · exact yW.cg rfl (gA_ne (by decide)) rfl
      · rw [gA_at, nI_clamp (by omega)]
        by_cases q : i = wh
        · rw [q, upd_at, if_pos rfl]
        · rw [upd_ne q, if_neg q, y50]
      · rw [gA_ne (by decide)]
        exact y51 i
  · show fA (setA x 51 _ _) 33 0 = 0
    rw [gA_ne (by decide)]; exact h33
  · rw [List.append_nil]
    exact hWk.cg rfl (gA_ne (by decide)) rfl
  · exact gA_ne (by decide)
  · rw [gA_at, nI_clamp (by omega)]
    by_cases e : i = wh
    · rw [e, upd_at, if_pos rfl]; rfl
    · rw [upd_ne e, if_neg e]
  · split
    · rename_i e; exact e
    · rename_i B' k' e; rw [e, List.nil_append, Nat.zero_add]
