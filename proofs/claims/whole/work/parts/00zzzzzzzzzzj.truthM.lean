/-! the truth of a test in a row, model -/
section
variable {x : St} {F : List SFd} {G : List Nat} {CK : List (List PgW)} {Pl : List PV} {s : Nat} {Q : Qy}
theorem cOf_n {f : Nat} (h : f < 2 ^ 31) : cOf F (nI f) = ncol (F.take f) := by unfold cOf fOf; rw [nI_clamp h]
theorem fOf_n {f : Nat} (h : f < 2 ^ 31) : fOf (nI f) = f := nI_clamp h
theorem tOf_n (hw : WfS F) {f : Nat} (hf : colF F f) : tOf F (nI f) = tyC F (ncol (F.take f)) ∧ tOf F (nI f) < 4 ∧ fTy F f = nI (tOf F (nI f)) := by
  have hF := hw.1
  obtain ⟨hc, hlf⟩ := col_ok hw hf
  obtain ⟨t4, tE⟩ := ty_lt hw hc
  have e : tOf F (nI f) = tyC F (ncol (F.take f)) := by
    unfold tOf tyC
    rw [fOf_n (by have := hf.1; omega), hlf]
  rw [e]
  rw [hlf] at tE
  exact ⟨rfl, t4, tE⟩
theorem cel_ok (hw : WfS F) (ok : OkO F G CK) (hl : CK.length = ncol F * G.length) {f : Nat} (hf : colF F f) {r : Nat} (hr : r < smN G) {p : PV} (h : celR F G CK r (ncol (F.take f)) = some p) : okPv (tOf F (nI f)) p := by
  obtain ⟨hc, hlf⟩ := col_ok hw hf
  obtain ⟨g2, g1, g3⟩ := rgO_ok hr
  have fl := flat_len hw ok hl hf g2
  have hi : r - smN (G.take (rgO G r)) < (ckG F CK (rgO G r) (ncol (F.take f))).length := by
    rw [fl]
    exact g3
  obtain ⟨-, k1, -⟩ := ok.at hl g2 hc
  obtain ⟨o1, o2⟩ := k1 ((ckG F CK (rgO G r) (ncol (F.take f))).getD (r - smN (G.take (rgO G r))) en0) (by
    rw [List.getD_eq_getElem?_getD, List.getElem?_eq_getElem hi]
    exact List.getElem_mem hi)
  unfold celR cel at h
  by_cases d : ((ckG F CK (rgO G r) (ncol (F.take f))).getD (r - smN (G.take (rgO G r))) en0).2.2.1 = mdC F (ncol (F.take f))
  · rw [if_pos d] at h
    injection h with h
    have := o1.2.2.2.1
    rw [o2] at this
    rw [(tOf_n hw hf).1, ← h]
    exact this d
  · rw [if_neg d] at h
    exact nomatch h
theorem isL_s {L : List QLt} {ty a m : Nat} {p : PV} : isL L ty a (m + 1) p = (isL L ty a m p || decide (cmpV ty p (lvl (L.getD (a + m) lt0)) = 0)) := by
  unfold isL
  rw [List.range_succ, List.any_append]
  show (_ || (_ || false)) = _
  rw [Bool.or_false]
theorem s_truthOf (H : RdM x F G CK Pl) (hw : WfS F) (ok : OkO F G CK) (hl : CK.length = ncol F * G.length) (hs : s < 3) (hQ : KqM x s Q) (hW : QyW F Q) {i : Nat} (hi : i < Q.2.2.1.length) {r : Nat} (hr : r < smN G) (n5 : ¬ (Q.2.2.1.getD i (0, 0, 0, 0, 0)).1 = 5) (n6 : ¬ (Q.2.2.1.getD i (0, 0, 0, 0, 0)).1 = 6) (n7 : ¬ (Q.2.2.1.getD i (0, 0, 0, 0, 0)).1 = 7) {post : Int32 → St → Prop}
    (p : post (nI (tst F Q.2.2.2 (celR F G CK r) (Q.2.2.1.getD i (0, 0, 0, 0, 0)))) x) : wp_Mod_truthOf post (nI (64 * s + i)) (nI r) x := by
  have hF := hw.1
  have hL : LM x := H.1
  have hQ' := hQ
  obtain ⟨⟨-, -, ⟨-, q64l, q3⟩, ⟨-, l64, -⟩⟩, -, -⟩ := hQ
  obtain ⟨r0, r1, r2, r3, r4⟩ := q3 i hi
  have hst : stW F Q.2.2.2 (Q.2.2.1.getD i (0, 0, 0, 0, 0)) := by
    refine hW.2.2.2.1 _ ?_
    rw [List.getD_eq_getElem?_getD, List.getElem?_eq_getElem hi]
    exact List.getElem_mem hi
  have ii : vp_in (nI (64 * s + i)) 192 := vp_in_nI (by omega) (by decide)
  have rd : ∀ a, rA x a (nI (64 * s + i)) = fA x a (64 * s + i) := fun a => rA_nI (by omega)
  generalize Q.2.2.1.getD i (0, 0, 0, 0, 0) = st at *
  unfold wp_Mod_truthOf
  rw [show fN x 85 = 192 from hL 85, rd, r1]
  refine ⟨ii, ?_⟩
  rcases hst with ⟨f, hf, e⟩ | ⟨f, a, m, hf, hm, ham, hlit, e⟩ | ⟨f, op, a, hf, ho, ha, hlit, e⟩ | ⟨f, op, g, hf, ho, hg, hty, e⟩ | e | e | e
  · have hf31 : f < 2 ^ 31 := by have := hf.1; omega
    have ef : st.2.1 = nI f := by rcases e with e | e <;> rw [e]
    have ek : st.1 = 0 ∨ st.1 = 1 := by rcases e with e | e <;> rw [e]; exact Or.inl rfl; exact Or.inr rfl
    rw [ef]
    unfold tst at p
    rw [ef, cOf_n hf31] at p
    have go : ∀ (v s0 : Int32), s0 = (if celR F G CK r (ncol (F.take f)) = none then 1 else 0) → (v = -1 ↔ celR F G CK r (ncol (F.take f)) = none) → (vp_in (nI (64 * s + i)) (fN x 84) ∧ (∀ v2452 : Int32, v2452 = (rA x 84 (nI (64 * s + i))) → ((2 ≤ v2452 → ((¬ v2452 = 4 → j_Mod_truthOf_76 post (nI (64 * s + i)) (nI r) v v2452 v x) ∧ (v2452 = 4 → (vp_in (nI (64 * s + i)) (fN x 87) ∧ wp_Mod_valueAt (fun (r2456 : Int32) (x2455 : St) => j_Mod_truthOf_76 post (nI (64 * s + i)) (nI r) v v2452 r2456 x2455) (rA x 87 (nI (64 * s + i))) (nI r) x)))) ∧ (¬ 2 ≤ v2452 → ((¬ v = (-1) → j_Mod_truthOf_36 post (nI (64 * s + i)) (nI r) v v2452 0 x) ∧ (v = (-1) → j_Mod_truthOf_36 post (nI (64 * s + i)) (nI r) v v2452 1 x)))))) := by
      intro v s0 es ev
      rw [show fN x 84 = 192 from hL 84]
      refine ⟨ii, nm_r (show _ = st.1 from by rw [rd]; exact r0) (br_f (by rcases ek with c | c <;> rw [c] <;> decide) ?_)⟩
      have m36 : ∀ w : Int32, w = (if celR F G CK r (ncol (F.take f)) = none then 1 else 0) → j_Mod_truthOf_36 post (nI (64 * s + i)) (nI r) v st.1 w x := by
        intro w ew
        unfold j_Mod_truthOf_36 j_Mod_truthOf_46
        rcases ek with c | c
        · rw [if_pos c] at p
          refine bn_t c ?_
          cases hv : celR F G CK r (ncol (F.take f)) with
          | none =>
            rw [hv] at p
            rw [hv, if_pos rfl] at ew
            exact bn_t ew p
          | some q =>
            rw [hv] at p
            rw [hv, if_neg (fun z => nomatch z)] at ew
            exact bn_f (by rw [ew]; decide) p
        · rw [if_neg (by rw [c]; decide), if_pos c] at p
          refine bn_f (by rw [c]; decide) ?_
          cases hv : celR F G CK r (ncol (F.take f)) with
          | none =>
            rw [hv] at p
            rw [hv, if_pos rfl] at ew
            exact bn_f (by rw [ew]; decide) p
          | some q =>
            rw [hv] at p
            rw [hv, if_neg (fun z => nomatch z)] at ew
            exact bn_t ew p
      by_cases c : celR F G CK r (ncol (F.take f)) = none
      · exact bn_t (ev.mpr c) (m36 1 (by rw [if_pos c]))
      · exact bn_f (fun z => c (ev.mp z)) (m36 0 (by rw [if_neg c]))
    refine s_valueAt H hw ok hl hf hr (fun c => go (-1) _ rfl ⟨fun _ => c, fun _ => rfl⟩) (fun a ha c => go (nI a) _ rfl ⟨fun z => absurd z (nI_nm1 (by have := H.2.2.2.2.2.2.2.2.1.2.2.1; omega)), fun z => by rw [z] at c; exact nomatch c⟩)
  · -- a list
    subst e
    have hf31 : f < 2 ^ 31 := by have := hf.1; omega
    obtain ⟨t1, t4, tE⟩ := tOf_n hw hf
    have p : post (nI (match celR F G CK r (cOf F (nI f)) with | none => 4 | some p => if isL Q.2.2.2 (tOf F (nI f)) (fOf (nI a)) (fOf (nI m)) p = true then 2 else 1)) x := p
    rw [cOf_n hf31, fOf_n (by omega), fOf_n (by omega)] at p
    have r3 : fA x 87 (64 * s + i) = nI a := r3
    have r4 : fA x 88 (64 * s + i) = nI m := r4
    have r0 : fA x 84 (64 * s + i) = 2 := r0
    show wp_Mod_valueAt _ (nI f) (nI r) x
    have pre : ∀ v, j_Mod_truthOf_76 post (nI (64 * s + i)) (nI r) v 2 v x → (vp_in (nI (64 * s + i)) (fN x 84) ∧ (∀ v2452 : Int32, v2452 = (rA x 84 (nI (64 * s + i))) → ((2 ≤ v2452 → ((¬ v2452 = 4 → j_Mod_truthOf_76 post (nI (64 * s + i)) (nI r) v v2452 v x) ∧ (v2452 = 4 → (vp_in (nI (64 * s + i)) (fN x 87) ∧ wp_Mod_valueAt (fun (r2456 : Int32) (x2455 : St) => j_Mod_truthOf_76 post (nI (64 * s + i)) (nI r) v v2452 r2456 x2455) (rA x 87 (nI (64 * s + i))) (nI r) x)))) ∧ (¬ 2 ≤ v2452 → ((¬ v = (-1) → j_Mod_truthOf_36 post (nI (64 * s + i)) (nI r) v v2452 0 x) ∧ (v = (-1) → j_Mod_truthOf_36 post (nI (64 * s + i)) (nI r) v v2452 1 x)))))) := by
      intro v hv
      rw [show fN x 84 = 192 from hL 84]
      exact ⟨ii, nm_r (show _ = (2 : Int32) from by rw [rd]; exact r0) (br_t (by decide) (bn_f (by decide) hv))⟩
    refine s_valueAt H hw ok hl hf hr (fun c => pre _ ?_) (fun b hb c => pre _ ?_)
    · rw [c] at p
      unfold j_Mod_truthOf_76 j_Mod_truthOf_89
      exact br_t rfl p
    · have okv := cel_ok hw ok hl hf hr c
      have hPl := H.2.2.2.2.2.2.2.2.1
      have nb : ¬ nI b = -1 := nI_nm1 (by have := hPl.2.2.1; omega)
      rw [c] at p
      have p : post (nI (if isL Q.2.2.2 (tOf F (nI f)) a m (pvd Pl b) = true then 2 else 1)) x := p
      unfold j_Mod_truthOf_76
      refine br_f nb (bn_f nb (bn_f (by decide) (nm_r (e' := nI (64 * s)) ?_ (bn_f (by decide) ?_))))
      · rw [d64 ⟨s, hs⟩ ⟨i, by omega⟩]
        show 64 * nI s = _
        rw [show (64 : Int32) = nI 64 from rfl, nI_mul]
      · refine lp_Mod_truthOf_190 (fun b1 b2 b3 b4 b5 b6 b7 b8 y => nI (64 * s + i) = b1 ∧ nI r = b2 ∧ nI b = b3 ∧ (2 : Int32) = b4 ∧ nI b = b5 ∧ nI (64 * s) = b6 ∧ x = y ∧ ∃ j, j ≤ m ∧ nI j = b8 ∧ b7 = (if isL Q.2.2.2 (tOf F (nI f)) a j (pvd Pl b) = true then 1 else 0)) (fun _ _ _ _ _ _ _ b8 _ => m - b8.toNatClampNeg) ?_ _ _ _ _ _ _ _ _ _ ⟨rfl, rfl, rfl, rfl, rfl, rfl, rfl, 0, Nat.zero_le _, rfl, rfl⟩
        rintro R b1 b2 b3 b4 b5 b6 b7 b8 y ⟨rfl, rfl, rfl, rfl, rfl, rfl, rfl, j, hj, rfl, rfl⟩ ih
        unfold j_Mod_truthOf_190 j_Mod_truthOf_226
        rw [show fN x 88 = 192 from hL 88, rd, r4]
        refine ⟨ii, ?_⟩
        by_cases cj : j < m
        · refine br_f (by (first | omega | (simp (disch := omega) only [Int32.le_iff_toInt_le, Int32.lt_iff_toInt_lt, z_eq, z_in, nI_toInt, z_cl, z_m1, z_sg, z_255, Int32.reduceToInt] <;> omega) | (simp only [Int32.le_iff_toInt_le, Int32.lt_iff_toInt_lt, z_eq, z_in, z_add, z_sub, z_mul, z_neg, z_nI, z_cl, z_sg, z_255, z_lit, Int32.reduceToInt] <;> omega))) ?_
          have nx : ∀ w : Int32, w = (if (isL Q.2.2.2 (tOf F (nI f)) a j (pvd Pl b) || decide (cmpV (tOf F (nI f)) (pvd Pl b) (lvl (Q.2.2.2.getD (a + j) lt0)) = 0)) = true then 1 else 0) → ∀ l7, j_Mod_truthOf_231 post R (nI (64 * s + i)) (nI r) (nI b) 2 (nI b) (nI (64 * s)) l7 (nI j) w x := by
            intro w ew l7
            unfold j_Mod_truthOf_231
            rw [nI_1]
            refine ih _ _ _ _ _ _ _ _ _ ⟨rfl, rfl, rfl, rfl, rfl, rfl, rfl, j + 1, cj, rfl, by rw [isL_s]; exact ew⟩ ?_
            rw [nI_clamp (by omega), nI_clamp (by omega)]
            omega
          by_cases cl : isL Q.2.2.2 (tOf F (nI f)) a j (pvd Pl b) = true
          · rw [if_pos cl]
            refine bn_f (by decide) (nx 1 ?_ _)
            rw [cl, Bool.true_or, if_pos rfl]
          · have clf : isL Q.2.2.2 (tOf F (nI f)) a j (pvd Pl b) = false := by cases z : isL Q.2.2.2 (tOf F (nI f)) a j (pvd Pl b); rfl; exact absurd z cl
            rw [if_neg cl]
            have lc := hlit (a + j) (by omega) (by omega)
            refine bn_t rfl ?_
            rw [show fN x 87 = 192 from hL 87, rd, r3, nI_add, nI_add, show 64 * s + a + j = 64 * s + (a + j) by omega]
            refine ⟨ii, s_agLit hL hPl hs hQ' hb (by omega) ?_ okv.v (fun _ => lc.2) ?_⟩
            · rw [tE] at lc
              have : (Q.2.2.2.getD (a + j) lt0).1 = nI (tOf F (nI f)) ∨ (Q.2.2.2.getD (a + j) lt0).1 = 2 ∧ nI (tOf F (nI f)) = 1 := lc.1
              generalize tOf F (nI f) = ty at *
              rcases this with z | ⟨z1, z2⟩
              · rw [z]
                exact nI_eq (b := 3) (by omega) (by decide)
              · rw [z1]
                have z2 : ty = 1 := (nI_eq (b := 1) (by omega) (by decide)).mp z2
                rw [z2]
                decide
            · by_cases c0 : cmpV (tOf F (nI f)) (pvd Pl b) (lvl (Q.2.2.2.getD (a + j) lt0)) = 0
              · exact bn_t c0 (nx 1 (by rw [clf, decide_eq_true c0]; rfl) _)
              · exact bn_f c0 (nx 0 (by rw [clf, decide_eq_false c0]; rfl) _)
        · have ej : j = m := by omega
          subst ej
          refine br_t (by (first | omega | (simp (disch := omega) only [Int32.le_iff_toInt_le, Int32.lt_iff_toInt_lt, z_eq, z_in, nI_toInt, z_cl, z_m1, z_sg, z_255, Int32.reduceToInt] <;> omega) | (simp only [Int32.le_iff_toInt_le, Int32.lt_iff_toInt_lt, z_eq, z_in, z_add, z_sub, z_mul, z_neg, z_nI, z_cl, z_sg, z_255, z_lit, Int32.reduceToInt] <;> omega))) ?_
          by_cases cl : isL Q.2.2.2 (tOf F (nI f)) a j (pvd Pl b) = true
          · rw [if_pos cl] at p ⊢
            exact br_f (by decide) p
          · rw [if_neg cl] at p ⊢
            exact br_t rfl p
  · -- a comparison with a literal
    subst e
    have hf31 : f < 2 ^ 31 := by have := hf.1; omega
    obtain ⟨t1, t4, tE⟩ := tOf_n hw hf
    have p : post (nI (match celR F G CK r (cOf F (nI f)) with | none => 4 | some p => if hld (fOf (nI op)) (cmpV (tOf F (nI f)) p (lvl (Q.2.2.2.getD (fOf (nI a)) lt0))) = true then 2 else 1)) x := p
    rw [cOf_n hf31, fOf_n (by omega), fOf_n (by omega)] at p
    have r2 : fA x 86 (64 * s + i) = nI op := r2
    have r3 : fA x 87 (64 * s + i) = nI a := r3
    have r0 : fA x 84 (64 * s + i) = 3 := r0
    show wp_Mod_valueAt _ (nI f) (nI r) x
    have pre : ∀ v, j_Mod_truthOf_76 post (nI (64 * s + i)) (nI r) v 3 v x → (vp_in (nI (64 * s + i)) (fN x 84) ∧ (∀ v2452 : Int32, v2452 = (rA x 84 (nI (64 * s + i))) → ((2 ≤ v2452 → ((¬ v2452 = 4 → j_Mod_truthOf_76 post (nI (64 * s + i)) (nI r) v v2452 v x) ∧ (v2452 = 4 → (vp_in (nI (64 * s + i)) (fN x 87) ∧ wp_Mod_valueAt (fun (r2456 : Int32) (x2455 : St) => j_Mod_truthOf_76 post (nI (64 * s + i)) (nI r) v v2452 r2456 x2455) (rA x 87 (nI (64 * s + i))) (nI r) x)))) ∧ (¬ 2 ≤ v2452 → ((¬ v = (-1) → j_Mod_truthOf_36 post (nI (64 * s + i)) (nI r) v v2452 0 x) ∧ (v = (-1) → j_Mod_truthOf_36 post (nI (64 * s + i)) (nI r) v v2452 1 x)))))) := by
      intro v hv
      rw [show fN x 84 = 192 from hL 84]
      exact ⟨ii, nm_r (show _ = (3 : Int32) from by rw [rd]; exact r0) (br_t (by decide) (bn_f (by decide) hv))⟩
    refine s_valueAt H hw ok hl hf hr (fun c => pre _ ?_) (fun b hb c => pre _ ?_)
    · rw [c] at p
      unfold j_Mod_truthOf_76 j_Mod_truthOf_89
      exact br_t rfl p
    · have okv := cel_ok hw ok hl hf hr c
      have hPl := H.2.2.2.2.2.2.2.2.1
      have nb : ¬ nI b = -1 := nI_nm1 (by have := hPl.2.2.1; omega)
      rw [c] at p
      have p : post (nI (if hld op (cmpV (tOf F (nI f)) (pvd Pl b) (lvl (Q.2.2.2.getD a lt0))) = true then 2 else 1)) x := p
      unfold j_Mod_truthOf_76
      refine br_f nb (bn_f nb (bn_f (by decide) (nm_r (e' := nI (64 * s)) ?_ (bn_t rfl ?_))))
      · rw [d64 ⟨s, hs⟩ ⟨i, by omega⟩]
        show 64 * nI s = _
        rw [show (64 : Int32) = nI 64 from rfl, nI_mul]
      · rw [show fN x 86 = 192 from hL 86, show fN x 87 = 192 from hL 87, rd, rd, r2, r3, nI_add]
        refine ⟨ii, ii, s_agLit hL hPl hs hQ' hb ha ?_ okv.v (fun _ => hlit.2) (s_holds ho ?_)⟩
        · have lc := hlit.1
          rw [tE] at lc
          generalize tOf F (nI f) = ty at *
          rcases lc with z | ⟨z1, z2⟩
          · rw [z]
            exact nI_eq (b := 3) (by omega) (by decide)
          · rw [z1]
            have z2 : ty = 1 := (nI_eq (b := 1) (by omega) (by decide)).mp z2
            rw [z2]
            decide
        · by_cases d : hld op (cmpV (tOf F (nI f)) (pvd Pl b) (lvl (Q.2.2.2.getD a lt0))) = true
          · rw [if_pos d] at p ⊢
            exact br_f (by decide) p
          · rw [if_neg d] at p ⊢
            exact br_t rfl p
  · -- two columns
    subst e
    have hf31 : f < 2 ^ 31 := by have := hf.1; omega
    have hg31 : g < 2 ^ 31 := by have := hg.1; omega
    obtain ⟨t1, t4, tE⟩ := tOf_n hw hf
    obtain ⟨u1, u4, uE⟩ := tOf_n hw hg
    have p : post (nI (match celR F G CK r (cOf F (nI f)) with | none => 4 | some p => (match celR F G CK r (cOf F (nI g)) with | none => 4 | some q => if hld (fOf (nI op)) (cmpV (tOf F (nI f)) p q) = true then 2 else 1))) x := p
    rw [cOf_n hf31, cOf_n hg31, fOf_n (by omega)] at p
    have r1 : fA x 85 (64 * s + i) = nI f := r1
    have r2 : fA x 86 (64 * s + i) = nI op := r2
    have r3 : fA x 87 (64 * s + i) = nI g := r3
    have r0 : fA x 84 (64 * s + i) = 4 := r0
    show wp_Mod_valueAt _ (nI f) (nI r) x
    have pre : ∀ v, wp_Mod_valueAt (fun (r2456 : Int32) (x2455 : St) => j_Mod_truthOf_76 post (nI (64 * s + i)) (nI r) v 4 r2456 x2455) (nI g) (nI r) x → (vp_in (nI (64 * s + i)) (fN x 84) ∧ (∀ v2452 : Int32, v2452 = (rA x 84 (nI (64 * s + i))) → ((2 ≤ v2452 → ((¬ v2452 = 4 → j_Mod_truthOf_76 post (nI (64 * s + i)) (nI r) v v2452 v x) ∧ (v2452 = 4 → (vp_in (nI (64 * s + i)) (fN x 87) ∧ wp_Mod_valueAt (fun (r2456 : Int32) (x2455 : St) => j_Mod_truthOf_76 post (nI (64 * s + i)) (nI r) v v2452 r2456 x2455) (rA x 87 (nI (64 * s + i))) (nI r) x)))) ∧ (¬ 2 ≤ v2452 → ((¬ v = (-1) → j_Mod_truthOf_36 post (nI (64 * s + i)) (nI r) v v2452 0 x) ∧ (v = (-1) → j_Mod_truthOf_36 post (nI (64 * s + i)) (nI r) v v2452 1 x)))))) := by
      intro v hv
      rw [show fN x 84 = 192 from hL 84, show fN x 87 = 192 from hL 87]
      refine ⟨ii, nm_r (show _ = (4 : Int32) from by rw [rd]; exact r0) (br_t (by decide) (bn_t rfl ⟨ii, ?_⟩))⟩
      rw [rd, r3]
      exact hv
    have hPl := H.2.2.2.2.2.2.2.2.1
    refine s_valueAt H hw ok hl hf hr (fun c => pre _ ?_) (fun b hb c => pre _ ?_)
    · rw [c] at p
      have m : ∀ v, j_Mod_truthOf_76 post (nI (64 * s + i)) (nI r) (-1) 4 v x := fun v => by
        unfold j_Mod_truthOf_76 j_Mod_truthOf_89
        exact br_t rfl p
      exact s_valueAt H hw ok hl hg hr (fun _ => m _) (fun _ _ _ => m _)
    · have okv := cel_ok hw ok hl hf hr c
      have nb : ¬ nI b = -1 := nI_nm1 (by have := hPl.2.2.1; omega)
      rw [c] at p
      refine s_valueAt H hw ok hl hg hr (fun c2 => ?_) (fun b2 hb2 c2 => ?_)
      · rw [c2] at p
        unfold j_Mod_truthOf_76 j_Mod_truthOf_89
        exact br_f nb (bn_t rfl p)
      · have okw := cel_ok hw ok hl hg hr c2
        have nb2 : ¬ nI b2 = -1 := nI_nm1 (by have := hPl.2.2.1; omega)
        rw [c2] at p
        have p : post (nI (if hld op (cmpV (tOf F (nI f)) (pvd Pl b) (pvd Pl b2)) = true then 2 else 1)) x := p
        unfold j_Mod_truthOf_76
        refine br_f nb (bn_f nb2 (bn_t rfl ?_))
        have hf1 := hf.1
        rw [show fN x 86 = 192 from hL 86, show fN x 85 = 192 from hL 85, rd, rd, r1, r2, k_plM, pl1, show fN x 4 = 384 from hL 4, rA_nI (by omega), (H.2.1.2.2.1 f hf1).2.1, tE]
        refine ⟨ii, ii, vp_in_nI (by omega) (by decide), s_compare hL hPl hb hb2 t4 okv.v ?_ (s_holds ho ?_)⟩
        · intro z
          rcases hty with d | d
          · rw [tE, uE] at d
            have d : tOf F (nI f) = tOf F (nI g) := (nI_eq (by omega) (by omega)).mp d
            exact okw.v (d.symm.trans z)
          · rw [tE, z] at d
            exact absurd d.1 (by decide)
        · by_cases d : hld op (cmpV (tOf F (nI f)) (pvd Pl b) (pvd Pl b2)) = true
          · rw [if_pos d] at p ⊢
            exact br_f (by decide) p
          · rw [if_neg d] at p ⊢
            exact br_t rfl p
  · rw [e] at n5; exact absurd rfl n5
  · rw [e] at n6; exact absurd rfl n6
  · rw [e] at n7; exact absurd rfl n7
end
