/-! can a value be that is not in a list? model -/
section
variable {x : St} {Pl : List PV} {s : Nat} {Q : Qy} {F : List SFd}
/-- what can be beside a list -/
def canO (L : List QLt) (ty a m : Nat) (t : Tl) : Bool := if t.2.2.2.2 = [] then decide (¬ cmpV ty t.2.2.1 t.2.2.2.1 = 0) || !isL L ty a m t.2.2.1 else t.2.2.2.2.any (fun w => !isL L ty a m w)
theorem s_canBO {post : Int32 → St → Prop} {ty f i a m : Nat} {t : Tl} (hL : LM x) (h : PoM x Pl) (hw : WfS F) (hR : RepM x 1 F) (hf : colF F f) (hs : s < 3) (hQ : KqM x s Q) (hi : i < 64) (r3 : fA x 87 (64 * s + i) = nI a) (r4 : fA x 88 (64 * s + i) = nI m) (ham : a + m ≤ Q.2.2.2.length) (hlit : ∀ j, a ≤ j → j < a + m → ((Q.2.2.2.getD j lt0).1 = 3 ↔ ty = 3) ∧ okVv ty (lvl (Q.2.2.2.getD j lt0))) (hty : ty < 4) (tE : fTy F f = nI ty) (hT : TdM x ty Pl (ncol (F.take f)) t) (hsome : t.2.1 < t.1) (p : post (if canO Q.2.2.2 ty a m t = true then 1 else 0) x) : wp_Mod_canBeOther post (nI (ncol (F.take f))) (nI (64 * s + i)) x := by
  have hC := hw.2.1
  have hc64 : ncol (F.take f) < 64 := by have := (col_ok hw hf).1; omega
  obtain ⟨-, -, -, -, t102, tW, tB, w, w1, w2, w3⟩ := hT
  obtain ⟨al, b, ha, hb, e99, e100, ea, eb, oa, ob⟩ := tB hsome
  have hl64 := hQ.1.2.2.2.2.1
  generalize hcc : ncol (F.take f) = c at *
  have ii : vp_in (nI c) 64 := vp_in_nI hc64 (by decide)
  have iv : vp_in (nI (64 * s + i)) 192 := vp_in_nI (by omega) (by decide)
  have hPl := h.2.2.1
  obtain ⟨V, hV⟩ : ∃ V : List PV, V = (if t.2.2.2.2 = [] then [t.2.2.1] else t.2.2.2.2) := ⟨_, rfl⟩
  have hVl : V.length = (if t.2.2.2.2.length = 0 then 1 else t.2.2.2.2.length) := by
    rw [hV]
    by_cases we : t.2.2.2.2 = []
    · rw [if_pos we, we]; rfl
    · rw [if_neg we, if_neg (fun z => we (List.length_eq_zero_iff.mp z))]
  have hV100 : V.length ≤ 100 := by rw [hVl]; split <;> omega
  -- outer loop
  have lp : ∀ o0 : Bool, post (if (o0 || V.any (fun v => !isL Q.2.2.2 ty a m v)) = true then 1 else 0) x → ∃ n, wl_Mod_canBeOther_80 post n (nI c) (nI (64 * s + i)) (nI (64 * s + a)) (if o0 = true then 1 else 0) (nI V.length) 0 x := by
    intro o0 po
    refine lp_Mod_canBeOther_80 (fun b1 b2 b3 b4 b5 b6 y => nI c = b1 ∧ nI (64 * s + i) = b2 ∧ nI (64 * s + a) = b3 ∧ nI V.length = b5 ∧ x = y ∧ ∃ k, k ≤ V.length ∧ nI k = b6 ∧ b4 = (if (o0 || (V.take k).any (fun v => !isL Q.2.2.2 ty a m v)) = true then 1 else 0)) (fun _ _ _ _ _ b6 _ => V.length - b6.toNatClampNeg) ?_ _ _ _ _ _ _ _ ⟨rfl, rfl, rfl, rfl, rfl, 0, Nat.zero_le _, rfl, by rw [List.take_zero]; show _ = if (o0 || false) = true then 1 else 0; rw [Bool.or_false]⟩
    rintro R b1 b2 b3 b4 b5 b6 y ⟨rfl, rfl, rfl, rfl, rfl, k, hk, rfl, rfl⟩ ih
    unfold j_Mod_canBeOther_80
    by_cases ck : k < V.length
    · refine br_f (by (first | omega | (simp (disch := omega) only [Int32.le_iff_toInt_le, Int32.lt_iff_toInt_lt, z_eq, z_in, nI_toInt, z_cl, z_m1, z_sg, z_255, Int32.reduceToInt] <;> omega) | (simp only [Int32.le_iff_toInt_le, Int32.lt_iff_toInt_lt, z_eq, z_in, z_add, z_sub, z_mul, z_neg, z_nI, z_cl, z_sg, z_255, z_lit, Int32.reduceToInt] <;> omega))) ?_
      generalize hb4 : (o0 || (V.take k).any (fun v => !isL Q.2.2.2 ty a m v)) = B
      have nx : ∀ (v l4 l7 l8 : Int32), v = (if (B || !isL Q.2.2.2 ty a m (pvd V k)) = true then 1 else 0) → j_Mod_canBeOther_175 post R (nI c) (nI (64 * s + i)) (nI (64 * s + a)) l4 (nI V.length) (nI k) l7 l8 v x := by
        intro v l4 l7 l8 ev
        unfold j_Mod_canBeOther_175
        rw [nI_1]
        refine ih _ _ _ _ _ _ _ ⟨rfl, rfl, rfl, rfl, rfl, k + 1, ck, rfl, by rw [any_tk ck, ← Bool.or_assoc, hb4]; exact ev⟩ ?_
        rw [nI_clamp (by omega), nI_clamp (by omega)]
        omega
      -- the value that is asked
      have val : ∃ z, z < Pl.length ∧ pvd Pl z = pvd V k ∧ okVv ty (pvd V k) ∧ ((t.2.2.2.2 = [] → fA x 99 c = nI z) ∧ (t.2.2.2.2 ≠ [] → fA x 101 c + nI k = nI z)) := by
        by_cases we : t.2.2.2.2 = []
        · have e1 : V = [t.2.2.1] := by rw [hV, if_pos we]
          have k0 : k = 0 := by rw [e1] at ck; have ck : k < 1 := ck; omega
          rw [e1, k0]
          exact ⟨al, ha, ea, oa, fun _ => e99, fun z => absurd we z⟩
        · have e1 : V = t.2.2.2.2 := by rw [hV, if_neg we]
          rw [e1] at ck ⊢
          exact ⟨w + k, by omega, (w3 k ck).1, (w3 k ck).2, fun z => absurd z we, fun z => by rw [w1 we, nI_add]⟩
      obtain ⟨z, hz, ez, oz, z1, z2⟩ := val
      refine lp_Mod_canBeOther_93 (rec80 := R) (fun b1 b2 b3 b4 b5 b6 b7 b8 y => nI c = b1 ∧ nI (64 * s + i) = b2 ∧ nI (64 * s + a) = b3 ∧ (if B = true then 1 else 0) = b4 ∧ nI V.length = b5 ∧ nI k = b6 ∧ x = y ∧ ∃ j, j ≤ m ∧ nI j = b8 ∧ b7 = (if isL Q.2.2.2 ty a j (pvd V k) = true then 1 else 0)) (fun _ _ _ _ _ _ _ b8 _ => m - b8.toNatClampNeg) ?_ _ _ _ _ _ _ _ _ _ ⟨rfl, rfl, rfl, rfl, rfl, rfl, rfl, 0, Nat.zero_le _, rfl, rfl⟩
      rintro R2 b1 b2 b3 b4 b5 b6 b7 b8 y ⟨rfl, rfl, rfl, rfl, rfl, rfl, rfl, j, hj, rfl, rfl⟩ ih2
      unfold j_Mod_canBeOther_93 j_Mod_canBeOther_170 j_Mod_canBeOther_147 j_Mod_canBeOther_137 j_Mod_canBeOther_147
      rw [show fN x 88 = 192 from hL 88, rA_nI (by omega), r4]
      refine ⟨iv, ?_⟩
      by_cases cj : j < m
      · refine br_f (by (first | omega | (simp (disch := omega) only [Int32.le_iff_toInt_le, Int32.lt_iff_toInt_lt, z_eq, z_in, nI_toInt, z_cl, z_m1, z_sg, z_255, Int32.reduceToInt] <;> omega) | (simp only [Int32.le_iff_toInt_le, Int32.lt_iff_toInt_lt, z_eq, z_in, z_add, z_sub, z_mul, z_neg, z_nI, z_cl, z_sg, z_255, z_lit, Int32.reduceToInt] <;> omega))) ?_
        have nx2 : ∀ (v l7 : Int32), v = (if (isL Q.2.2.2 ty a j (pvd V k) || decide (cmpV ty (pvd V k) (lvl (Q.2.2.2.getD (a + j) lt0)) = 0)) = true then 1 else 0) → j_Mod_canBeOther_152 post R R2 (nI c) (nI (64 * s + i)) (nI (64 * s + a)) (if B = true then 1 else 0) (nI V.length) (nI k) l7 (nI j) v x := by
          intro v l7 ev
          unfold j_Mod_canBeOther_152
          rw [nI_1]
          refine ih2 _ _ _ _ _ _ _ _ _ ⟨rfl, rfl, rfl, rfl, rfl, rfl, rfl, j + 1, cj, rfl, by rw [isL_s]; exact ev⟩ ?_
          rw [nI_clamp (by omega), nI_clamp (by omega)]
          omega
        by_cases cl : isL Q.2.2.2 ty a j (pvd V k) = true
        · rw [if_pos cl]
          exact bn_f (by decide) (nx2 1 _ (by rw [cl, Bool.true_or, if_pos rfl]))
        · have clf : isL Q.2.2.2 ty a j (pvd V k) = false := by cases q : isL Q.2.2.2 ty a j (pvd V k); rfl; exact absurd q cl
          rw [if_neg cl]
          refine bn_t rfl ?_
          obtain ⟨g1, g2⟩ := hlit (a + j) (by omega) (by omega)
          have ag : wp_Mod_againstLiteral (fun (r2353 : Int32) (x2352 : St) => ((¬ r2353 = 0 → j_Mod_canBeOther_152 post R R2 (nI c) (nI (64 * s + i)) (nI (64 * s + a)) (if B = true then 1 else 0) (nI V.length) (nI k) 0 (nI j) 0 x2352) ∧ (r2353 = 0 → j_Mod_canBeOther_152 post R R2 (nI c) (nI (64 * s + i)) (nI (64 * s + a)) (if B = true then 1 else 0) (nI V.length) (nI k) 0 (nI j) 1 x2352))) (nI z) (nI (64 * s + a) + nI j) x := by
            rw [nI_add, show 64 * s + a + j = 64 * s + (a + j) by omega]
            refine s_agLit hL h hs hQ hz (by omega) g1 (by rw [ez]; exact oz) g2 ?_
            rw [ez]
            by_cases d : cmpV ty (pvd V k) (lvl (Q.2.2.2.getD (a + j) lt0)) = 0
            · exact bn_t d (nx2 1 _ (by rw [clf, decide_eq_true d]; rfl))
            · exact bn_f d (nx2 0 _ (by rw [clf, decide_eq_false d]; rfl))
          rw [show fN x 102 = 64 from hL 102, rA_nI (o := 102) (by omega), t102]
          refine ⟨ii, ?_⟩
          by_cases we : t.2.2.2.2 = []
          · refine bn_t (by rw [we]; rfl) ?_
            rw [show fN x 99 = 64 from hL 99, rA_nI (o := 99) (by omega), z1 we]
            exact ⟨ii, ag⟩
          · have wp : 0 < t.2.2.2.2.length := List.length_pos_iff.mpr we
            refine bn_f (fun q => by have := (nI_eq (b := 0) (by omega) (by decide)).mp q; omega) ?_
            rw [show fN x 101 = 64 from hL 101, rA_nI (o := 101) (by omega), z2 we]
            exact ⟨ii, ag⟩
      · have ej : j = m := by omega
        subst ej
        refine br_t (by (first | omega | (simp (disch := omega) only [Int32.le_iff_toInt_le, Int32.lt_iff_toInt_lt, z_eq, z_in, nI_toInt, z_cl, z_m1, z_sg, z_255, Int32.reduceToInt] <;> omega) | (simp only [Int32.le_iff_toInt_le, Int32.lt_iff_toInt_lt, z_eq, z_in, z_add, z_sub, z_mul, z_neg, z_nI, z_cl, z_sg, z_255, z_lit, Int32.reduceToInt] <;> omega))) ?_
        cases B with
        | true =>
          exact bn_f (by decide) (nx 1 _ _ _ (by rw [Bool.true_or, if_pos rfl]))
        | false =>
          refine bn_t rfl ?_
          by_cases cl : isL Q.2.2.2 ty a j (pvd V k) = true
          · rw [if_pos cl]
            exact bn_f (by decide) (nx 0 _ _ _ (by rw [cl]; rfl))
          · have clf : isL Q.2.2.2 ty a j (pvd V k) = false := by cases q : isL Q.2.2.2 ty a j (pvd V k); rfl; exact absurd q cl
            rw [if_neg cl]
            exact bn_t rfl (nx 1 _ _ _ (by rw [clf]; rfl))
    · have ek : k = V.length := by omega
      refine br_t (by (first | omega | (simp (disch := omega) only [Int32.le_iff_toInt_le, Int32.lt_iff_toInt_lt, z_eq, z_in, nI_toInt, z_cl, z_m1, z_sg, z_255, Int32.reduceToInt] <;> omega) | (simp only [Int32.le_iff_toInt_le, Int32.lt_iff_toInt_lt, z_eq, z_in, z_add, z_sub, z_mul, z_neg, z_nI, z_cl, z_sg, z_255, z_lit, Int32.reduceToInt] <;> omega))) ⟨nrw, ?_⟩
      rw [ek, List.take_length]
      exact po
  have m54 : ∀ o0 : Bool, post (if (o0 || V.any (fun v => !isL Q.2.2.2 ty a m v)) = true then 1 else 0) x → j_Mod_canBeOther_54 post (nI c) (nI (64 * s + i)) (nI (64 * s + a)) (if o0 = true then 1 else 0) x := by
    intro o0 po
    have := lp o0 po
    rw [hVl] at this
    unfold j_Mod_canBeOther_54 j_Mod_canBeOther_75
    rw [show fN x 102 = 64 from hL 102, rA_nI (by omega), t102]
    refine ⟨ii, ?_⟩
    by_cases we : t.2.2.2.2 = []
    · rw [we] at this ⊢
      exact bn_t rfl this
    · have wp : 0 < t.2.2.2.2.length := List.length_pos_iff.mpr we
      rw [if_neg (show ¬ t.2.2.2.2.length = 0 by omega)] at this
      exact bn_f (fun q => by have := (nI_eq (b := 0) (by omega) (by decide)).mp q; omega) ⟨ii, this⟩
  unfold wp_Mod_canBeOther
  rw [show fN x 87 = 192 from hL 87, d64 ⟨s, hs⟩ ⟨i, hi⟩, rA_nI (by omega), r3]
  refine ⟨iv, nm_r (e' := nI (64 * s + a)) (by show 64 * nI s + nI a = _; rw [q64]) ?_⟩
  rw [show fN x 102 = 64 from hL 102, rA_nI (by omega), t102]
  refine ⟨ii, ?_⟩
  unfold canO at p
  by_cases we : t.2.2.2.2 = []
  · rw [if_pos we] at p
    have eV : V.any (fun v => !isL Q.2.2.2 ty a m v) = !isL Q.2.2.2 ty a m t.2.2.1 := by
      rw [hV, if_pos we]
      show (_ || false) = _
      rw [Bool.or_false]
    refine bn_t (by rw [we]; rfl) ?_
    rw [← hcc]
    refine s_typeOfQ hL hw hR hf ?_
    rw [hcc, show fN x 99 = 64 from hL 99, show fN x 100 = 64 from hL 100, rA_nI (by omega), rA_nI (by omega), e99, e100, tE]
    refine ⟨ii, ii, s_compare hL h ha hb hty (by rw [ea]; exact oa) (by rw [eb]; exact ob) ?_⟩
    rw [ea, eb]
    by_cases d : cmpV ty t.2.2.1 t.2.2.2.1 = 0
    · rw [decide_eq_false (fun z => z d), ← eV] at p
      unfold j_Mod_canBeOther_53
      exact br_t d (m54 false p)
    · rw [decide_eq_true d, ← eV] at p
      exact br_f d (m54 true p)
  · rw [if_neg we] at p
    have wp : 0 < t.2.2.2.2.length := List.length_pos_iff.mpr we
    have eV : V = t.2.2.2.2 := by rw [hV, if_neg we]
    rw [← eV] at p
    unfold j_Mod_canBeOther_53
    exact bn_f (fun q => by have := (nI_eq (b := 0) (by omega) (by decide)).mp q; omega) (m54 false (by rw [Bool.false_or]; exact p))
end
