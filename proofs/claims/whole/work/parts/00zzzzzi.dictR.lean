/-! the model reads a DICTIONARY of texts -/
/-- words of a dictionary -/
def WdT (y : St) (W : List PV) : Prop := fI y 0 59 = nI W.length ∧ W.length ≤ 1000 ∧ oF W W.length ≤ 20000 ∧ (∀ k, k ≤ W.length → fA y 35 k = nI (oF W k)) ∧ ∀ k, k < W.length → ∀ j, j < (pvd W k).2.length → fA y 38 (oF W k + j) = (pvd W k).2.getD j 0
theorem nI_big {v : Nat} (h : 2 ^ 31 ≤ v) (h2 : v < 2 ^ 32) : nI v < 0 := by
  rw [Int32.lt_iff_toInt_lt, show (0 : Int32).toInt = 0 from rfl]
  show (BitVec.ofNat 32 v).toInt < 0
  rw [BitVec.toInt_eq_toNat_cond, BitVec.toNat_ofNat, Nat.mod_eq_of_lt h2, if_neg (by omega)]
  omega
section
variable {x : St} {T : Nat → Nat} {n st p : Nat}
theorem dtx_len {W : List PV} : ∀ N acc P, dtx W N acc = .ok P → P.length = acc.length + N.length := by
  intro N
  induction N with
  | nil => intro acc P h; simp only [dtx, Except.ok.injEq] at h; rw [← h]; rfl
  | cons v N ih =>
    intro acc P h
    simp only [dtx] at h
    split at h
    · exact absurd h (by simp)
    · split at h
      · exact absurd h (by simp)
      · have := ih _ _ h
        rw [List.length_append] at this
        rw [List.length_cons]
        have e : [pvd W v].length = 1 := rfl
        omega
theorem s_dcT {post : St → Prop} {m : Nat} (hF : FiM x T n) (h0 : fI x 0 69 = 0) (hp : fI x 0 67 = nI p) (h68 : fI x 0 68 = nI st) (hps : p ≤ st) (hst : st ≤ n) (hm : m ≤ 1000) (hN : NwT x [])
    (pe : ∀ e y, dcR T 3 m st p = .error e → FrVl x y → Flt y e → fA y 34 0 = 0 → post y)
    (pk : ∀ P W q y, dcR T 3 m st p = .ok ((P, W), q) → FrVl x y → fI y 0 69 = 0 → fI y 0 67 = nI q → q ≤ st → NwT y P → WdT y W → P.length = m → post y) : wp_Mod_readDictionary post (nI m) x := by
  have hn := hF.2.1
  have hT := hF.2.2.1
  have e34 : fN x 34 = 1001 := hF.1 34
  have e35 : fN x 35 = 1001 := hF.1 35
  have e37 : fN x 37 = 20000 := hF.1 37
  have e38 : fN x 38 = 20000 := hF.1 38
  have e41 : fN x 41 = 40000 := hF.1 41
  have e44 : fN x 44 = 1008 := hF.1 44
  unfold wp_Mod_readDictionary
  rw [h68]
  refine s_vrd hF h0 hp hps hst (fun e y y1 y2 y3 => ?_) (fun d q y y1 y2 y3 y4 => ?_)
  · refine ⟨fun _ => ?_, fun w => absurd w y3.ne⟩
    unfold j_Mod_readDictionary_34
    exact ⟨fun w => absurd w y3.ne, fun _ => pe e y (by unfold dcR; rw [y1]) y2.vl y3 (y2.nw hN).z⟩
  · obtain ⟨v1, v2, v3⟩ := vrd_ok hT y1
    have Fy := y2.fi hF
    have ed : dcR T 3 m st p = (if m < d then .error 4 else match ptxF T st d [] q with
      | .error e => .error e
      | .ok (W, q1) => if st ≤ q1 then .error 1 else if 32 < T q1 then .error 5 else match rns T m (T q1) st (q1 + 1) with
        | .error e => .error e
        | .ok (N, q2) => if q2 < st then .error 6 else match dtx W N [] with
          | .error e => .error e
          | .ok P => .ok ((P, W), q2)) := by
      unfold dcR; rw [y1]; rfl
    refine ⟨fun w => absurd y4 w, fun _ => oob_tests (post := True) v1 (show (nI m).toInt64 = lN m from nI_l (by omega)) (by omega) (fun c => ?_) (fun c => ?_)⟩
    · rw [if_pos c] at ed
      unfold j_Mod_readDictionary_29 j_Mod_readDictionary_34
      have fl : Flt (setI y 0 69 4) 4 := ⟨gI_at, by decide, by decide⟩
      exact nm_e ⟨fun w => absurd w fl.ne, fun _ => pe 4 _ ed (Fg.trans y2.vl (Fg.i ⟨rfl, by decide⟩)) fl (y2.nw hN).z⟩
    · rw [if_neg (by omega)] at ed
      unfold j_Mod_readDictionary_34
      refine ⟨fun _ => ?_, fun w => absurd y4 w⟩
      rw [lN_i]
      refine s_ptx Fy y4 y3 ((y2.1 0 68 (by decide)).trans h68) v3 hst (by omega) (y2.nw hN) (fun e z z1 z2 z3 z0 => ?_) (fun W q1 z z1 z2 z3 z4 z5 z6 z7 => ?_)
      · exact ⟨fun w => absurd w z3.ne, fun _ => pe e z (by rw [ed, z1]) (Fg.trans y2.vl z2.vl) z3 z0⟩
      · rw [z1] at ed
        simp only at ed
        refine ⟨fun _ => ?_, fun w => absurd z3 w⟩
        obtain ⟨w1, w2, w3, w4, w5⟩ := id z6
        rw [w1]
        refine nm_e ?_
        have fz : FrVl x z := Fg.trans y2.vl z2.vl
        -- places of the words
        refine lp_Mod_readDictionary_67 (fun a0 a1 a2 u => nI m = a0 ∧ lN d = a1 ∧ ∃ k, nI k = a2 ∧ k ≤ W.length + 1 ∧ Fg (fun o k => o = 0 ∧ k = 59) no2 no2 (fun a => a = 35) no1 z u ∧ fI u 0 59 = nI W.length ∧ ∀ j, j < k → fA u 35 j = nI (oF W j)) (fun _ _ a2 _ => W.length + 1 - a2.toNatClampNeg) ?_ _ _ _ _ ⟨rfl, rfl, 0, rfl, Nat.zero_le _, Fg.i ⟨rfl, rfl⟩, gI_at, fun j hj => absurd hj (Nat.not_lt_zero _)⟩
        rintro Q a0 a1 a2 u ⟨rfl, rfl, k, rfl, k1, u1, u2, u3⟩ ih
        have I1 : ∀ k, k ≠ 59 → fI u 0 k = fI z 0 k := fun k hk => u1.1 0 k (fun w => hk w.2)
        have fu : FrVl x u := Fg.trans fz (u1.mono (fun _ _ w => ⟨w.1, by omega⟩) (fun _ _ w => w) (fun _ _ w => w) (fun _ w => by omega) (fun _ w => w.elim))
        have N1 : ∀ o, fN u o = fN x o := fun o => by show u.2.2.2.2.2 o = _; rw [fu.2.2.2.2.2]
        have A34 : fA u 34 = fA z 34 := u1.2.2.2.1 34 (by decide)
        have A37 : fA u 37 = fA z 37 := u1.2.2.2.1 37 (by decide)
        have n34 := N1 34
        have n35 := N1 35
        unfold j_Mod_readDictionary_67
        rw [u2]
        by_cases ck : k < W.length + 1
        · refine br_f (by (first | omega | (simp (disch := omega) only [Int32.le_iff_toInt_le, Int32.lt_iff_toInt_lt, z_eq, z_in, nI_toInt, z_cl, z_m1, z_sg, z_255, Int32.reduceToInt] <;> omega) | (simp only [Int32.le_iff_toInt_le, Int32.lt_iff_toInt_lt, z_eq, z_in, z_add, z_sub, z_mul, z_neg, z_nI, z_cl, z_sg, z_255, z_lit, Int32.reduceToInt] <;> omega))) ⟨vp_in_nI (by omega) (by omega), vp_in_nI (by omega) (by omega), nm_e ?_⟩
          rw [rA_nI (by omega), A34, w4 k (by omega), nI_1]
          refine ih _ _ _ _ ⟨rfl, rfl, k + 1, rfl, ck, Fg.trans u1 (Fg.a rfl), u2, fun j hj => ?_⟩ (by rw [nI_clamp (by omega), nI_clamp (by omega)]; omega)
          rw [gA_at, nI_clamp (by omega)]
          by_cases e : j = k
          · rw [e, upd_at]
          · rw [upd_ne (by omega)]; exact u3 j (by omega)
        · have ek : k = W.length + 1 := by omega
          subst ek
          refine br_t (by (first | omega | (simp (disch := omega) only [Int32.le_iff_toInt_le, Int32.lt_iff_toInt_lt, z_eq, z_in, nI_toInt, z_cl, z_m1, z_sg, z_255, Int32.reduceToInt] <;> omega) | (simp only [Int32.le_iff_toInt_le, Int32.lt_iff_toInt_lt, z_eq, z_in, z_add, z_sub, z_mul, z_neg, z_nI, z_cl, z_sg, z_255, z_lit, Int32.reduceToInt] <;> omega))) ?_
          -- bytes of the words
          refine lp_Mod_readDictionary_99 (fun a0 a1 a2 t => nI m = a0 ∧ lN d = a1 ∧ ∃ k, nI k = a2 ∧ k ≤ oF W W.length ∧ Fg no2 no2 no2 (fun a => a = 38) no1 u t ∧ ∀ j, j < k → fA t 38 j = fA z 37 j) (fun _ _ a2 _ => oF W W.length - a2.toNatClampNeg) ?_ _ _ _ _ ⟨rfl, rfl, 0, rfl, Nat.zero_le _, Fg.refl u, fun j hj => absurd hj (Nat.not_lt_zero _)⟩
          rintro Q2 a0 a1 a2 t ⟨rfl, rfl, k, rfl, k2, t1, t2⟩ ih2
          have I2 : ∀ k, fI t 0 k = fI u 0 k := fun k => t1.1 0 k id
          have ft : FrVl x t := Fg.trans fu (t1.mono (fun _ _ w => w.elim) (fun _ _ w => w) (fun _ _ w => w) (fun _ w => by omega) (fun _ w => w.elim))
          have N2 : ∀ o, fN t o = fN x o := fun o => by show t.2.2.2.2.2 o = _; rw [ft.2.2.2.2.2]
          have B34 : fA t 34 = fA z 34 := (t1.2.2.2.1 34 (by decide)).trans A34
          have B35 : fA t 35 = fA u 35 := t1.2.2.2.1 35 (by decide)
          have B37 : fA t 37 = fA z 37 := (t1.2.2.2.1 37 (by decide)).trans A37
          have r35 := N2 35
          have r37 := N2 37
          have r38 := N2 38
          have r41 := N2 41
          have r44 := N2 44
          unfold j_Mod_readDictionary_99
          rw [I2 59, u2]
          refine ⟨vp_in_nI (by omega) (by omega), ?_⟩
          rw [rA_nI (by omega), B35, u3 W.length (by omega)]
          by_cases ck2 : k < oF W W.length
          · refine br_f (by (first | omega | (simp (disch := omega) only [Int32.le_iff_toInt_le, Int32.lt_iff_toInt_lt, z_eq, z_in, nI_toInt, z_cl, z_m1, z_sg, z_255, Int32.reduceToInt] <;> omega) | (simp only [Int32.le_iff_toInt_le, Int32.lt_iff_toInt_lt, z_eq, z_in, z_add, z_sub, z_mul, z_neg, z_nI, z_cl, z_sg, z_255, z_lit, Int32.reduceToInt] <;> omega))) ⟨vp_in_nI (by omega) (by omega), vp_in_nI (by omega) (by omega), nm_e ?_⟩
            rw [rA_nI (by omega), B37, nI_1]
            refine ih2 _ _ _ _ ⟨rfl, rfl, k + 1, rfl, ck2, Fg.trans t1 (Fg.a rfl), fun j hj => ?_⟩ (by rw [nI_clamp (by omega), nI_clamp (by omega)]; omega)
            rw [gA_at, nI_clamp (by omega)]
            by_cases e : j = k
            · rw [e, upd_at]
            · rw [upd_ne (by omega)]; exact t2 j (by omega)
          · have ek2 : k = oF W W.length := by omega
            subst ek2
            refine br_t (by (first | omega | (simp (disch := omega) only [Int32.le_iff_toInt_le, Int32.lt_iff_toInt_lt, z_eq, z_in, nI_toInt, z_cl, z_m1, z_sg, z_255, Int32.reduceToInt] <;> omega) | (simp only [Int32.le_iff_toInt_le, Int32.lt_iff_toInt_lt, z_eq, z_in, z_add, z_sub, z_mul, z_neg, z_nI, z_cl, z_sg, z_255, z_lit, Int32.reduceToInt] <;> omega))) (nm_e ?_)
            -- the numbers
            have X69 : fI (setI t 0 58 0) 0 69 = 0 := (gI_ne (by decide)).trans ((I2 69).trans ((I1 69 (by decide)).trans z3))
            have X67 : fI (setI t 0 58 0) 0 67 = nI q1 := (gI_ne (by decide)).trans ((I2 67).trans ((I1 67 (by decide)).trans z4))
            have X58 : fI (setI t 0 58 0) 0 58 = nI 0 := gI_at
            have fX : FrVl x (setI t 0 58 0) := Fg.trans ft (Fg.i ⟨rfl, by decide⟩)
            have X68 : fI (setI t 0 58 0) 0 68 = nI st := (fX.1 0 68 (by decide)).trans h68
            have XW : WdT (setI t 0 58 0) W := by
              refine ⟨(gI_ne (by decide)).trans ((I2 59).trans u2), w2, w3, fun k hk => ?_, fun k hk j hj => ?_⟩
              · show fA t 35 k = _; rw [B35]; exact u3 k (by omega)
              · show fA t 38 _ = _
                have ho := oF_le (P := W) (k := k + 1) (n := W.length) (by omega)
                have ho2 : oF W (k + 1) = oF W k + (pvd W k).2.length := rfl
                rw [t2 _ (by omega)]; exact w5 k hk j hj
            have XN : NwT (setI t 0 58 0) [] := by
              refine ⟨X58, Nat.zero_le _, Nat.zero_le _, fun k hk => ?_, fun k hk => absurd hk (Nat.not_lt_zero _)⟩
              have k0 : k = 0 := Nat.le_zero.mp hk
              rw [k0]
              show fA t 34 0 = _
              rw [B34]; exact w4 0 (Nat.zero_le _)
            have FX' := fX.fi hF
            generalize setI t 0 58 0 = X at *
            have x41 : fN X 41 = 40000 := FX'.1 41
            rw [X67, X68]
            have flt : ∀ e, 0 < e → e < 100 → dcR T 3 m st p = .error e → ∀ l4, j_Mod_readDictionary_176 post (nI m) (lN d) l4 (setI X 0 69 (nI e)) := fun e a b he l4 => by
              have fl : Flt (setI X 0 69 (nI e)) e := ⟨gI_at, a, b⟩
              unfold j_Mod_readDictionary_176
              exact ⟨fun w => absurd w fl.ne, fun _ => pe e _ he (Fg.trans fX (Fg.i ⟨rfl, by decide⟩)) fl XN.z⟩
            by_cases c3 : q1 < st
            · rw [if_neg (by omega)] at ed
              have hTq := hT q1
              refine br_t (by (first | omega | (simp (disch := omega) only [Int32.le_iff_toInt_le, Int32.lt_iff_toInt_lt, z_eq, z_in, nI_toInt, z_cl, z_m1, z_sg, z_255, Int32.reduceToInt] <;> omega) | (simp only [Int32.le_iff_toInt_le, Int32.lt_iff_toInt_lt, z_eq, z_in, z_add, z_sub, z_mul, z_neg, z_nI, z_cl, z_sg, z_255, z_lit, Int32.reduceToInt] <;> omega))) ⟨vp_in_nI (by omega) (by omega), ?_⟩
              rw [rA_nI (by omega), FX'.2.2.2 q1 (by omega)]
              by_cases c4 : 32 < T q1
              · rw [if_pos c4] at ed
                exact br_f (by (first | omega | (simp (disch := omega) only [Int32.le_iff_toInt_le, Int32.lt_iff_toInt_lt, z_eq, z_in, nI_toInt, z_cl, z_m1, z_sg, z_255, Int32.reduceToInt] <;> omega) | (simp only [Int32.le_iff_toInt_le, Int32.lt_iff_toInt_lt, z_eq, z_in, z_add, z_sub, z_mul, z_neg, z_nI, z_cl, z_sg, z_255, z_lit, Int32.reduceToInt] <;> omega))) (nm_e (flt 5 (by decide) (by decide) ed _))
              · rw [if_neg c4] at ed
                refine br_t (by (first | omega | (simp (disch := omega) only [Int32.le_iff_toInt_le, Int32.lt_iff_toInt_lt, z_eq, z_in, nI_toInt, z_cl, z_m1, z_sg, z_255, Int32.reduceToInt] <;> omega) | (simp only [Int32.le_iff_toInt_le, Int32.lt_iff_toInt_lt, z_eq, z_in, z_add, z_sub, z_mul, z_neg, z_nI, z_cl, z_sg, z_255, z_lit, Int32.reduceToInt] <;> omega))) ?_
                unfold j_Mod_readDictionary_176
                refine ⟨fun _ => ?_, fun w => absurd X69 w⟩
                rw [X67]
                refine ⟨vp_in_nI (by omega) (by omega), nm_r (e' := nI (T q1)) (by rw [rA_nI (by omega)]; exact FX'.2.2.2 q1 (by omega)) ?_⟩
                rw [nI_1]
                refine nm_e ?_
                rw [show fI (setI X 0 67 (nI (q1 + 1))) 0 68 = nI st from (gI_ne (by decide)).trans X68]
                have fX2 : FrVl x (setI X 0 67 (nI (q1 + 1))) := Fg.trans fX (Fg.i ⟨rfl, by decide⟩)
                have m44 : fN (setI X 0 67 (nI (q1 + 1))) 44 = 1008 := (fX2.fi hF).1 44
                have endS : ∀ (b : St) l4 e, Flt b e → dcR T 3 m st p = .error e → FrVl x b → fA b 34 0 = 0 → j_Mod_readDictionary_244 post (nI m) (lN d) l4 b := fun b l4 e hf he hb hz => by
                  unfold j_Mod_readDictionary_244
                  refine ⟨1, ?_⟩
                  unfold wl_Mod_readDictionary_247 j_Mod_readDictionary_247
                  by_cases c : nI m ≤ 0
                  · exact br_t c (pe e b he hb hf hz)
                  · exact br_f c ⟨fun _ => pe e b he hb hf hz, fun w => absurd w hf.ne⟩
                refine s_rns (fX2.fi hF) ((gI_ne (by decide)).trans X69) gI_at (by omega) hst (by decide) (by omega) (by omega) (by omega) (fun e b b1 b2 b3 => ?_) (fun N q2 b b1 b2 b3 b4 b5 => ?_)
                · exact ⟨fun _ => endS b _ e b3 (by rw [ed, b1]) (Fg.trans fX2 b2.vl) (by rw [show fA b 34 = fA X 34 from b2.2.2.2.1 34 (by decide)]; exact XN.z), fun w => absurd w b3.ne⟩
                · rw [b1] at ed
                  simp only at ed
                  obtain ⟨r1, r2, r3, r4⟩ := rns_ok hT b1 (by omega)
                  have fb : FrVl x b := Fg.trans fX2 b2.vl
                  refine ⟨fun w => absurd b4 w, fun _ => ?_⟩
                  rw [show fI b 0 68 = nI st from (fb.1 0 68 (by decide)).trans h68, b3]
                  by_cases c6 : q2 < st
                  · rw [if_pos c6] at ed
                    exact br_f (by (first | omega | (simp (disch := omega) only [Int32.le_iff_toInt_le, Int32.lt_iff_toInt_lt, z_eq, z_in, nI_toInt, z_cl, z_m1, z_sg, z_255, Int32.reduceToInt] <;> omega) | (simp only [Int32.le_iff_toInt_le, Int32.lt_iff_toInt_lt, z_eq, z_in, z_add, z_sub, z_mul, z_neg, z_nI, z_cl, z_sg, z_255, z_lit, Int32.reduceToInt] <;> omega))) (nm_e (endS _ _ 6 ⟨gI_at, by decide, by decide⟩ ed (Fg.trans fb (Fg.i ⟨rfl, by decide⟩)) (by show fA b 34 0 = 0; rw [show fA b 34 = fA X 34 from b2.2.2.2.1 34 (by decide)]; exact XN.z)))
                  · rw [if_neg c6] at ed
                    refine br_t (by (first | omega | (simp (disch := omega) only [Int32.le_iff_toInt_le, Int32.lt_iff_toInt_lt, z_eq, z_in, nI_toInt, z_cl, z_m1, z_sg, z_255, Int32.reduceToInt] <;> omega) | (simp only [Int32.le_iff_toInt_le, Int32.lt_iff_toInt_lt, z_eq, z_in, z_add, z_sub, z_mul, z_neg, z_nI, z_cl, z_sg, z_255, z_lit, Int32.reduceToInt] <;> omega))) ?_
                    unfold j_Mod_readDictionary_244
                    have B0 : ∀ k, k ≠ 67 → k ≠ 69 → fI b 0 k = fI X 0 k := fun k h1 h2 => (b2.1 0 k (fun w => by omega)).trans (gI_ne h1)
                    have bW : WdT b W := by
                      obtain ⟨g1, g2, g3, g4, g5⟩ := XW
                      refine ⟨(B0 59 (by decide) (by decide)).trans g1, g2, g3, ?_, ?_⟩
                      · rw [show fA b 35 = fA X 35 from b2.2.2.2.1 35 (by decide)]; exact g4
                      · rw [show fA b 38 = fA X 38 from b2.2.2.2.1 38 (by decide)]; exact g5
                    have bN : NwT b [] := XN.cg (B0 58 (by decide) (by decide)) (b2.2.2.2.1 34 (by decide)) (b2.2.2.2.1 37 (by decide))
                    -- a text for each number
                    have key : ∀ dd acc (c : St), acc.length + dd = m → Fg (fun o k => o = 0 ∧ (k = 58 ∨ k = 69)) no2 no2 (fun a => a = 34 ∨ a = 37) no1 b c → fI c 0 69 = 0 → NwT c acc → dtx W N [] = dtx W (N.drop acc.length) acc → wl_Mod_readDictionary_247 post (dd + 1) (nI m) (lN d) (nI (T q1)) (nI acc.length) c := by
                      intro dd
                      induction dd with
                      | zero =>
                        intro acc c hd c1 c2 c3 c4
                        unfold wl_Mod_readDictionary_247 j_Mod_readDictionary_247
                        rw [List.drop_eq_nil_of_le (by omega)] at c4
                        have fc : FrVl x c := Fg.trans fb (c1.mono (fun _ _ w => ⟨w.1, by omega⟩) (fun _ _ w => w) (fun _ _ w => w) (fun _ w => by omega) (fun _ w => w.elim))
                        have cW : WdT c W := by
                          obtain ⟨g1, g2, g3, g4, g5⟩ := bW
                          refine ⟨(c1.1 0 59 (by decide)).trans g1, g2, g3, ?_, ?_⟩
                          · rw [show fA c 35 = fA b 35 from c1.2.2.2.1 35 (by decide)]; exact g4
                          · rw [show fA c 38 = fA b 38 from c1.2.2.2.1 38 (by decide)]; exact g5
                        refine br_t (by (first | omega | (simp (disch := omega) only [Int32.le_iff_toInt_le, Int32.lt_iff_toInt_lt, z_eq, z_in, nI_toInt, z_cl, z_m1, z_sg, z_255, Int32.reduceToInt] <;> omega) | (simp only [Int32.le_iff_toInt_le, Int32.lt_iff_toInt_lt, z_eq, z_in, z_add, z_sub, z_mul, z_neg, z_nI, z_cl, z_sg, z_255, z_lit, Int32.reduceToInt] <;> omega))) (pk acc W q2 c (by rw [ed, c4]; rfl) fc c2 ((c1.1 0 67 (by decide)).trans b3) r4 c3 cW (by omega))
                      | succ dd ihd =>
                        intro acc c hd c1 c2 c3 c4
                        have fc : FrVl x c := Fg.trans fb (c1.mono (fun _ _ w => ⟨w.1, by omega⟩) (fun _ _ w => w) (fun _ _ w => w) (fun _ w => by omega) (fun _ w => w.elim))
                        have N3 : ∀ o, fN c o = fN x o := fun o => by show c.2.2.2.2.2 o = _; rw [fc.2.2.2.2.2]
                        have g34 := N3 34
                        have g35 := N3 35
                        have g37 := N3 37
                        have g38 := N3 38
                        have g44 := N3 44
                        obtain ⟨cW1, cW2, cW3, cW4, cW5⟩ := bW
                        have C59 : fI c 0 59 = nI W.length := (c1.1 0 59 (by decide)).trans cW1
                        have C35 : fA c 35 = fA b 35 := c1.2.2.2.1 35 (by decide)
                        have C38 : fA c 38 = fA b 38 := c1.2.2.2.1 38 (by decide)
                        have C44 : fA c 44 = fA b 44 := c1.2.2.2.1 44 (by decide)
                        have hal : acc.length < N.length := by omega
                        have nv : N.getD acc.length 0 < 2 ^ 32 := by
                          have := r2 _ (getD_mem hal)
                          have p32 : 2 ^ T q1 ≤ 2 ^ 32 := Nat.pow_le_pow_right (by decide) (by omega)
                          omega
                        have dr : N.drop acc.length = N.getD acc.length 0 :: N.drop (acc.length + 1) := by
                          rw [List.drop_eq_getElem_cons hal, List.getD_eq_getElem?_getD, List.getElem?_eq_getElem hal]; rfl
                        rw [dr] at c4
                        simp only [dtx] at c4
                        obtain ⟨m1, m2, m3, m4, m5⟩ := id c3
                        unfold wl_Mod_readDictionary_247 j_Mod_readDictionary_247
                        refine br_f (by (first | omega | (simp (disch := omega) only [Int32.le_iff_toInt_le, Int32.lt_iff_toInt_lt, z_eq, z_in, nI_toInt, z_cl, z_m1, z_sg, z_255, Int32.reduceToInt] <;> omega) | (simp only [Int32.le_iff_toInt_le, Int32.lt_iff_toInt_lt, z_eq, z_in, z_add, z_sub, z_mul, z_neg, z_nI, z_cl, z_sg, z_255, z_lit, Int32.reduceToInt] <;> omega))) ⟨fun w => absurd c2 w, fun _ => ⟨vp_in_nI (by omega) (by omega), ?_⟩⟩
                        rw [rA_nI (by omega), C44, b5 acc.length (by omega)]
                        refine nm_e ?_
                        generalize N.getD acc.length 0 = v at *
                        have bad : ∀ l8, dcR T 3 m st p = .error 7 → ∀ l7, j_Mod_readDictionary_341 post (nI m) (lN d) (nI (T q1)) (nI acc.length) (nI v) l7 l8 c := fun l8 he l7 => by
                          unfold j_Mod_readDictionary_341
                          exact nm_e (pe 7 _ he (Fg.trans fc (Fg.i ⟨rfl, by decide⟩)) ⟨gI_at, by decide, by decide⟩ c3.z)
                        have bad0 : W.length ≤ v → j_Mod_readDictionary_287 post (wl_Mod_readDictionary_247 post (dd + 1)) (nI m) (lN d) (nI (T q1)) (nI acc.length) (nI v) c := fun cv => by
                          rw [if_pos cv] at c4
                          unfold j_Mod_readDictionary_287 j_Mod_readDictionary_288
                          refine br_t rfl ?_
                          unfold j_Mod_readDictionary_316
                          exact br_t rfl (bad _ (by rw [ed, c4]) _)
                        have good : v < W.length → j_Mod_readDictionary_288 post (wl_Mod_readDictionary_247 post (dd + 1)) (nI m) (lN d) (nI (T q1)) (nI acc.length) (nI v) 1 c := fun cv => by
                          rw [if_neg (by omega)] at c4
                          have o1 : oF W (v + 1) = oF W v + (pvd W v).2.length := rfl
                          have o2 := oF_le (P := W) (k := v + 1) (n := W.length) (by omega)
                          unfold j_Mod_readDictionary_288
                          refine br_f (by decide) ?_
                          rw [nI_1]
                          refine ⟨vp_in_nI (by omega) (by omega), vp_in_nI (by omega) (by omega), ?_⟩
                          rw [rA_nI (by omega), rA_nI (by omega), C35, cW4 _ (by omega), cW4 _ (by omega), nI_sub (by omega), show oF W (v + 1) - oF W v = (pvd W v).2.length by omega]
                          unfold j_Mod_readDictionary_316
                          refine br_f (by decide) ?_
                          rw [m1]
                          refine ⟨vp_in_nI (by omega) (by omega), ?_⟩
                          rw [rA_nI (by omega), m4 _ (Nat.le_refl _), nI_add]
                          by_cases cb : 20000 < oF acc acc.length + (pvd W v).2.length
                          · rw [if_pos cb] at c4
                            exact br_f (by (first | omega | (simp (disch := omega) only [Int32.le_iff_toInt_le, Int32.lt_iff_toInt_lt, z_eq, z_in, nI_toInt, z_cl, z_m1, z_sg, z_255, Int32.reduceToInt] <;> omega) | (simp only [Int32.le_iff_toInt_le, Int32.lt_iff_toInt_lt, z_eq, z_in, z_add, z_sub, z_mul, z_neg, z_nI, z_cl, z_sg, z_255, z_lit, Int32.reduceToInt] <;> omega))) (bad _ (by rw [ed, c4]) _)
                          · rw [if_neg cb] at c4
                            refine br_t (by (first | omega | (simp (disch := omega) only [Int32.le_iff_toInt_le, Int32.lt_iff_toInt_lt, z_eq, z_in, nI_toInt, z_cl, z_m1, z_sg, z_255, Int32.reduceToInt] <;> omega) | (simp only [Int32.le_iff_toInt_le, Int32.lt_iff_toInt_lt, z_eq, z_in, z_add, z_sub, z_mul, z_neg, z_nI, z_cl, z_sg, z_255, z_lit, Int32.reduceToInt] <;> omega))) ?_
                            refine lp_Mod_readDictionary_351 (fun a0 a1 a2 a3 a4 a5 a6 a7 h => nI m = a0 ∧ lN d = a1 ∧ nI (T q1) = a2 ∧ nI acc.length = a3 ∧ nI v = a4 ∧ nI (pvd W v).2.length = a6 ∧ ∃ k, nI k = a7 ∧ k ≤ (pvd W v).2.length ∧ Fg no2 no2 no2 (fun a => a = 37) no1 c h ∧ (∀ j, j < oF acc acc.length → fA h 37 j = fA c 37 j) ∧ ∀ j, j < k → fA h 37 (oF acc acc.length + j) = (pvd W v).2.getD j 0) (fun _ _ _ _ _ _ _ a7 _ => (pvd W v).2.length - a7.toNatClampNeg) ?_ _ _ _ _ _ _ _ _ _ ⟨rfl, rfl, rfl, rfl, rfl, rfl, 0, rfl, Nat.zero_le _, Fg.refl c, fun _ _ => rfl, fun j hj => absurd hj (Nat.not_lt_zero _)⟩
                            rintro Q3 a0 a1 a2 a3 a4 a5 a6 a7 h ⟨rfl, rfl, rfl, rfl, rfl, rfl, k, rfl, k3, h1, h2, h3⟩ ih3
                            have I3 : ∀ k, fI h 0 k = fI c 0 k := fun k => h1.1 0 k id
                            have N4 : ∀ o, fN h o = fN c o := fun o => by show h.2.2.2.2.2 o = _; rw [h1.2.2.2.2.2]
                            have H34 : fA h 34 = fA c 34 := h1.2.2.2.1 34 (by decide)
                            have H35 : fA h 35 = fA b 35 := (h1.2.2.2.1 35 (by decide)).trans C35
                            have H38 : fA h 38 = fA b 38 := (h1.2.2.2.1 38 (by decide)).trans C38
                            have i34 := N4 34
                            have i35 := N4 35
                            have i37 := N4 37
                            have i38 := N4 38
                            unfold j_Mod_readDictionary_351
                            rw [I3 58, m1]
                            by_cases ck3 : k < (pvd W v).2.length
                            · refine br_f (by (first | omega | (simp (disch := omega) only [Int32.le_iff_toInt_le, Int32.lt_iff_toInt_lt, z_eq, z_in, nI_toInt, z_cl, z_m1, z_sg, z_255, Int32.reduceToInt] <;> omega) | (simp only [Int32.le_iff_toInt_le, Int32.lt_iff_toInt_lt, z_eq, z_in, z_add, z_sub, z_mul, z_neg, z_nI, z_cl, z_sg, z_255, z_lit, Int32.reduceToInt] <;> omega))) ⟨vp_in_nI (by omega) (by omega), vp_in_nI (by omega) (by omega), ?_⟩
                              rw [rA_nI (by omega), rA_nI (by omega), H34, H35, m4 _ (Nat.le_refl _), cW4 _ (by omega), nI_add, nI_add]
                              refine ⟨vp_in_nI (by omega) (by omega), vp_in_nI (by omega) (by omega), nm_e ?_⟩
                              rw [rA_nI (by omega), H38, cW5 v cv k ck3, nI_1]
                              refine ih3 _ _ _ _ _ _ _ _ _ ⟨rfl, rfl, rfl, rfl, rfl, rfl, k + 1, rfl, ck3, Fg.trans h1 (Fg.a rfl), fun j hj => ?_, fun j hj => ?_⟩ (by rw [nI_clamp (by omega), nI_clamp (by omega)]; omega)
                              · rw [gA_at, nI_clamp (by omega), upd_ne (by omega)]; exact h2 j hj
                              · rw [gA_at, nI_clamp (by omega)]
                                by_cases e : j = k
                                · rw [e, upd_at]
                                · rw [upd_ne (by omega)]; exact h3 j (by omega)
                            · have ek3 : k = (pvd W v).2.length := by omega
                              subst ek3
                              refine br_t (by (first | omega | (simp (disch := omega) only [Int32.le_iff_toInt_le, Int32.lt_iff_toInt_lt, z_eq, z_in, nI_toInt, z_cl, z_m1, z_sg, z_255, Int32.reduceToInt] <;> omega) | (simp only [Int32.le_iff_toInt_le, Int32.lt_iff_toInt_lt, z_eq, z_in, z_add, z_sub, z_mul, z_neg, z_nI, z_cl, z_sg, z_255, z_lit, Int32.reduceToInt] <;> omega))) ?_
                              rw [nI_1]
                              refine nm_e ?_
                              rw [show fI (setI h 0 58 (nI (acc.length + 1))) 0 58 = nI (acc.length + 1) from gI_at, show nI (acc.length + 1) - 1 = nI acc.length from by rw [show (1 : Int32) = nI 1 from rfl, nI_sub (by omega)]; rfl]
                              refine ⟨vp_in_nI (by show _ < fN h 34; omega) (by show fN h 34 < _; omega), vp_in_nI (by show _ < fN h 34; omega) (by show fN h 34 < _; omega), nm_e ?_⟩
                              rw [show rA (setI h 0 58 (nI (acc.length + 1))) 34 (nI acc.length) = nI (oF acc acc.length) from by rw [rA_nI (by omega)]; show fA h 34 _ = _; rw [H34]; exact m4 _ (Nat.le_refl _), nI_add]
                              have lnn : (acc ++ [pvd W v]).length = acc.length + 1 := by rw [List.length_append]; rfl
                              have oo : oF (acc ++ [pvd W v]) (acc.length + 1) = oF acc acc.length + (pvd W v).2.length := oF_a2
                              have a69 : fI (setI h 0 58 (nI (acc.length + 1))) 0 69 = 0 := (gI_ne (by decide)).trans ((I3 69).trans c2)
                              have a58 : fI (setI h 0 58 (nI (acc.length + 1))) 0 58 = nI (acc.length + 1) := gI_at
                              have := ihd (acc ++ [pvd W v]) (setA (setI h 0 58 (nI (acc.length + 1))) 34 (nI (acc.length + 1)) (nI (oF acc acc.length + (pvd W v).2.length))) (by omega) (Fg.trans c1 (Fg.trans (h1.mono (fun _ _ w => w.elim) (fun _ _ w => w) (fun _ _ w => w) (fun _ w => Or.inr w) (fun _ w => w)) (Fg.trans (Fg.i ⟨rfl, by decide⟩) (Fg.a (Or.inl rfl))))) a69 ⟨by rw [lnn]; exact a58, by rw [lnn]; omega, by rw [lnn, oo]; omega, fun j hj => ?_, fun j hj i' hi' => ?_⟩ (by rw [lnn]; exact c4)
                              · rw [lnn] at this
                                exact this
                              · rw [lnn] at hj
                                show upd (fA h 34) _ _ j = _
                                rw [nI_clamp (by omega)]
                                by_cases e : j = acc.length + 1
                                · rw [e, upd_at, oo]
                                · rw [upd_ne (by omega), H34, oF_a1 _ (by omega)]; exact m4 j (by omega)
                              · rw [lnn] at hj
                                show fA h 37 _ = _
                                by_cases e : j = acc.length
                                · subst e
                                  rw [pv_last] at hi' ⊢
                                  rw [oF_a1 _ (Nat.le_refl _)]
                                  exact h3 i' hi'
                                · rw [pvd_a1 (by omega)] at hi' ⊢
                                  rw [oF_a1 _ (by omega)]
                                  have ho := oF_le (P := acc) (k := j + 1) (n := acc.length) (by omega)
                                  have ho2 : oF acc (j + 1) = oF acc j + (pvd acc j).2.length := rfl
                                  rw [h2 _ (by omega)]
                                  exact m5 j (by omega) i' hi'
                        by_cases cneg : nI v < 0
                        · refine br_t cneg (bad0 ?_)
                          rcases Nat.lt_or_ge v W.length with z | z
                          · exact absurd cneg (nI_pos (by omega))
                          · exact z
                        · refine br_f cneg ?_
                          rw [C59]
                          have vlt : v < 2 ^ 31 := Classical.byContradiction (fun z => cneg (nI_big (by omega) nv))
                          by_cases cv : v < W.length
                          · exact br_f (by (first | omega | (simp (disch := omega) only [Int32.le_iff_toInt_le, Int32.lt_iff_toInt_lt, z_eq, z_in, nI_toInt, z_cl, z_m1, z_sg, z_255, Int32.reduceToInt] <;> omega) | (simp only [Int32.le_iff_toInt_le, Int32.lt_iff_toInt_lt, z_eq, z_in, z_add, z_sub, z_mul, z_neg, z_nI, z_cl, z_sg, z_255, z_lit, Int32.reduceToInt] <;> omega))) (good cv)
                          · exact br_t (by (first | omega | (simp (disch := omega) only [Int32.le_iff_toInt_le, Int32.lt_iff_toInt_lt, z_eq, z_in, nI_toInt, z_cl, z_m1, z_sg, z_255, Int32.reduceToInt] <;> omega) | (simp only [Int32.le_iff_toInt_le, Int32.lt_iff_toInt_lt, z_eq, z_in, z_add, z_sub, z_mul, z_neg, z_nI, z_cl, z_sg, z_255, z_lit, Int32.reduceToInt] <;> omega))) (bad0 (by omega))
                    exact ⟨m + 1, key m [] b (by rw [List.length_nil]; omega) (Fg.refl b) b4 bN (by rw [List.length_nil, List.drop_zero])⟩
            · rw [if_pos (by omega)] at ed
              exact br_f (by (first | omega | (simp (disch := omega) only [Int32.le_iff_toInt_le, Int32.lt_iff_toInt_lt, z_eq, z_in, nI_toInt, z_cl, z_m1, z_sg, z_255, Int32.reduceToInt] <;> omega) | (simp only [Int32.le_iff_toInt_le, Int32.lt_iff_toInt_lt, z_eq, z_in, z_add, z_sub, z_mul, z_neg, z_nI, z_cl, z_sg, z_255, z_lit, Int32.reduceToInt] <;> omega))) (nm_e (flt 1 (by decide) (by decide) ed _))
end
