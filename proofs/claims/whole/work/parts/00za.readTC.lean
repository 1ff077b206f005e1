/-! the class reads a SCHEMA to its end -/
theorem pst_emp {F : List SFd} {f : Nat} (hw : WfS F) (hf : f < F.length) (hg : gIn F (nI f)) : pst (fPa F) f F.length = f + 1 ↔ F.length = f + 1 := by
  have hF := hw.1
  rcases hg with z | ⟨b, b1, b2, b3, b4⟩
  · exact absurd z (nI_nm1 (by omega))
  · rw [nI_eq (by omega) (by omega)] at b2
    subst b2
    constructor
    · intro e
      have := @pst_in (fPa F) f F.length (F.length - 1) (by omega) b4
      omega
    · intro e
      rw [e]
      show (if upS (ind f) (fPa F) (nI f) = 1 then f + 1 else _) = f + 1
      rw [if_pos (ind_self hw.2.2.1 hf)]
theorem d_readText {post : Int32 → St → Prop} {s q : Nat} {x : St} {T : Nat → Int32} {n : Nat} (hs : SchId s) (hL : LC x) (h : ScC x q T n 0 (-1)) (hq : ∀ k, 2 ≤ k → k ≤ 12 → q ≠ stC s k)
    (pE : ∀ e y, e ≠ -1 → FrX s x y → (∃ c, ∀ d, (runS T n (d + c) [] 0 (-1)).1 = e) → post e y)
    (pO : ∀ F y, FrX s x y → RepC y s F → WfS F → F ≠ [] → (∃ c, ∀ d, runS T n (d + c) [] 0 (-1) = (-1, F)) → post (-1) y) : wp_Sch_readText post s 10 x := by
  have hn := h.1.2.2.1
  have e10 : s ≠ 10 := by rcases hs with rfl | rfl | rfl <;> decide
  unfold wp_Sch_readText wp_Sch_forget
  refine nm_e (nm_e ?_)
  have f0 : FrX s x (setI (setI x s 0 0) s 1 0) := Fr.trans (Fr.I (Or.inr rfl)) (Fr.I (Or.inr rfl))
  have z0 : ScC (setI (setI x s 0 0) s 1 0) q T n 0 (-1) := h.fr hs hq (Fr.trans (Fr.I rfl) (Fr.I rfl))
  have r0 : RepC (setI (setI x s 0 0) s 1 0) s [] := by
    refine ⟨?_, ?_, fun f hf => absurd hf (Nat.not_lt_zero f), fun f hf => absurd hf (Nat.not_lt_zero f), fun f hf => absurd hf (Nat.not_lt_zero f)⟩
    · rw [gI_ne (by decide), gI_at]; rfl
    · rw [gI_at]; rfl
  have w0 : WfS [] := ⟨by decide, by decide, ⟨by decide, fun f hf => absurd hf (Nat.not_lt_zero f)⟩, fun f hf => absurd hf (Nat.not_lt_zero f), fun f _ hf => absurd hf (Nat.not_lt_zero f), fun f hf => absurd hf (Nat.not_lt_zero f), fun f h _ hf => absurd hf (Nat.not_lt_zero h)⟩
  refine lp_Sch_readText_8 (fun a0 a1 a2 a3 y => s = a0 ∧ 10 = a1 ∧ ∃ F k e i, FrX s x y ∧ ScC y q T n k e ∧ nI i = a3 ∧ i ≤ n + 1 ∧ (e = -1 → RepC y s F ∧ WfS F ∧ gIn F a2 ∧ i ≤ k ∧ ∃ c, ∀ d, runS T n (d + c) [] 0 (-1) = runS T n d F k a2) ∧ (e ≠ -1 → ∃ c, ∀ d, (runS T n (d + c) [] 0 (-1)).1 = e)) (fun _ _ _ a3 _ => n + 2 - a3.toNatClampNeg) ?_ _ _ _ _ _ ⟨rfl, rfl, [], 0, -1, 0, f0, z0, rfl, Nat.zero_le _, fun _ => ⟨r0, w0, Or.inl rfl, Nat.le_refl _, 0, fun _ => rfl⟩, fun z => absurd rfl z⟩
  rintro R a0 a1 g a3 y ⟨rfl, rfl, F, k, e, i, f1, z1, rfl, hi, ho, hE⟩ ih
  have i1 : fI y 10 1 = nI n := z1.1.2.1
  unfold j_Sch_readText_8 j_Sch_readText_98
  rw [i1]
  by_cases ce : e = -1
  · subst ce
    obtain ⟨hR, hw, hg, hik, hrun⟩ := ho rfl
    have hk := z1.2.2.2
    have hF := hw.1
    have hsk := @skip_le T n k hk
    have hgk := skip_ge T n k
    refine br_f (by (first | omega | (simp (disch := omega) only [Int32.le_iff_toInt_le, Int32.lt_iff_toInt_lt, z_eq, z_in, nI_toInt, z_cl, z_m1, z_sg, z_255, Int32.reduceToInt] <;> omega) | (simp only [Int32.le_iff_toInt_le, Int32.lt_iff_toInt_lt, z_eq, z_in, z_add, z_sub, z_mul, z_neg, z_nI, z_cl, z_sg, z_255, z_lit, Int32.reduceToInt] <;> omega))) (c_good ?_)
    rw [if_pos z1.2.2.1]
    refine br_f (by decide) (c_next z1.1 z1.2.1 (by omega) ?_)
    have z2 : ScC (setI y 10 2 (nI (skip T n k))) q T n (skip T n k) (-1) := z1.go hsk
    have f2 : FrX s x (setI y 10 2 (nI (skip T n k))) := f1.trans (FrN.i).x
    have R2 : RepC (setI y 10 2 (nI (skip T n k))) s F := hR.frN hs FrN.i
    have L2 : LC (setI y 10 2 (nI (skip T n k))) := hL.fr f2
    generalize hY : setI y 10 2 (nI (skip T n k)) = Y at *
    -- a FIELD is read
    have rd : rdHere T n F k g → ∀ l4, j_Sch_readText_85 post R s 10 g (nI i) l4 Y := by
      intro hh l4
      have hh2 : rdF T n F (skip T n k) g = rdF T n F k g := by unfold rdF; rw [skip_skip]
      unfold j_Sch_readText_85 j_Sch_readText_92
      refine d_readField hs L2 z2 R2 hw hg hq (fun ne v y3 k' f3 z3 => ?_) (fun eo y3 f3 z3 R3 w3 g3 k3 => ?_)
      · rw [nI_1]
        rw [hh2] at ne z3
        refine ih _ _ _ _ _ ⟨rfl, rfl, F, k', _, i + 1, f2.trans f3, z3, rfl, by omega, fun z => absurd z ne, fun _ => ?_⟩ ?_
        · refine mc_err hrun ⟨1, fun d => ?_⟩
          rw [runS_rd hh, if_neg ne]
        · show n + 2 - (nI (i + 1)).toNatClampNeg < n + 2 - (nI i).toNatClampNeg
          rw [nI_clamp (by omega), nI_clamp (by omega)]
          omega
      · rw [nI_1]
        rw [hh2] at eo z3 R3 w3 g3 k3 ⊢
        refine ih _ _ _ _ _ ⟨rfl, rfl, (rdF T n F k g).2.1, (rdF T n F k g).2.2.1, -1, i + 1, f2.trans f3, z3, rfl, by omega, fun _ => ⟨R3, w3, g3, by omega, mc_trans hrun ⟨1, fun d => ?_⟩⟩, fun z => absurd rfl z⟩ ?_
        · rw [runS_rd hh, if_pos eo]
        · show n + 2 - (nI (i + 1)).toNatClampNeg < n + 2 - (nI i).toNatClampNeg
          rw [nI_clamp (by omega), nI_clamp (by omega)]
          omega
    -- what comes next
    have s49 : ¬ (¬ skip T n k < n ∧ g = -1 ∧ F ≠ []) → j_Sch_readText_49 post R s 10 g (nI i) (if skip T n k < n then T (skip T n k) else -1) Y := by
      intro hA
      unfold j_Sch_readText_49
      by_cases c5 : skip T n k < n ∧ T (skip T n k) = 125
      · rw [if_pos c5.1]
        refine bn_t c5.2 ?_
        by_cases cg : g = -1
        · exact br_t cg (rd ⟨hA, fun z => z.2.2.1 cg⟩ _)
        · refine br_f cg ?_
          rcases hg with z | ⟨f, b1, b2, b3, b4⟩
          · exact absurd z cg
          · subst b2
            have hgI : gIn F (nI f) := Or.inr ⟨f, b1, rfl, b3, b4⟩
            obtain ⟨g2, g3, g4, g5, g6, g7, g8, -⟩ := R2.2.2.2.1 f b1
            unfold wp_Sch_isEmptyGroup j_Sch_isEmptyGroup_26
            rw [L2.s hs (by decide) (by decide), L2.s hs (by decide) (by decide), rA_nI (by omega), rA_nI (by omega), g3, g8, nI_1]
            refine ⟨vp_in_nI (by show _ < 128; omega) (by decide), bn_t b3 ⟨vp_in_nI (by show _ < 128; omega) (by decide), ?_⟩⟩
            have pl : pst (fPa F) f F.length ≤ F.length := pst_le b1
            by_cases ce : F.length = f + 1
            · refine bn_t (by rw [(pst_emp hw b1 hgI).mpr ce]) (bn_f (by decide) (rd ⟨hA, fun z => z.2.2.2 ?_⟩ _))
              rw [ce, Nat.add_sub_cancel]
            · refine bn_f (fun z => ce ((pst_emp hw b1 hgI).mp ((nI_eq (by omega) (by omega)).mp z))) (bn_t rfl ?_)
              refine d_needSign z2 (by decide) (fun a b y3 f3 z3 => ?_) (fun z => absurd ⟨by rw [skip_skip]; exact c5.1, by rw [skip_skip]; exact c5.2⟩ z)
              rw [skip_skip] at z3
              have R3 := R2.frN hs f3
              refine ⟨by rw [(L2.fr f3).s hs (by decide) (by decide)]; exact vp_in_nI (by show _ < 128; omega) (by decide), nm_r (e' := fPa F f) (by rw [rA_nI (by omega)]; exact (R3.2.2.2.1 f b1).2.2.1) ?_⟩
              unfold j_Sch_readText_92
              rw [nI_1]
              refine ih _ _ _ _ _ ⟨rfl, rfl, F, skip T n k + 1, -1, i + 1, f2.trans f3.x, z3, rfl, by omega, fun _ => ⟨R3, hw, gIn_up hw b1 hgI, by omega, mc_trans hrun ⟨1, fun d => ?_⟩⟩, fun z => absurd rfl z⟩ ?_
              · show (if ¬ skip T n k < n ∧ nI f = -1 ∧ F ≠ [] then _ else _) = _
                rw [if_neg hA, if_pos ⟨c5.1, c5.2, nI_nm1 (by omega), fun w => by rw [nI_eq (by omega) (by omega)] at w; omega⟩, nI_clamp (by omega)]
              · show n + 2 - (nI (i + 1)).toNatClampNeg < n + 2 - (nI i).toNatClampNeg
                rw [nI_clamp (by omega), nI_clamp (by omega)]
                omega
      · refine bn_f (fun z => ?_) (rd ⟨hA, fun z => c5 ⟨z.1, z.2.1⟩⟩ _)
        by_cases c6 : skip T n k < n
        · rw [if_pos c6] at z; exact c5 ⟨c6, z⟩
        · rw [if_neg c6] at z; exact absurd z (by decide)
    by_cases c6 : skip T n k < n
    · have hb := (z1.1.2.2.2.2.2 (skip T n k) c6).2.1
      refine bn_f (fun z => ?_) (s49 (fun z => z.1 c6))
      rw [if_pos c6] at z
      rw [z] at hb
      exact absurd hb (by decide)
    · refine bn_t (by rw [if_neg c6]) ?_
      by_cases cg : g = -1
      · refine bn_t cg ?_
        rw [R2.1]
        by_cases cF : F = []
        · refine br_t (by rw [cF]; decide) (s49 (fun z => z.2.2 cF))
        · have hpos : 0 < F.length := List.length_pos_iff.mpr cF
          refine br_f (by (first | omega | (simp (disch := omega) only [Int32.le_iff_toInt_le, Int32.lt_iff_toInt_lt, z_eq, z_in, nI_toInt, z_cl, z_m1, z_sg, z_255, Int32.reduceToInt] <;> omega) | (simp only [Int32.le_iff_toInt_le, Int32.lt_iff_toInt_lt, z_eq, z_in, z_add, z_sub, z_mul, z_neg, z_nI, z_cl, z_sg, z_255, z_lit, Int32.reduceToInt] <;> omega))) (pO F Y f2 R2 hw cF ?_)
          obtain ⟨c, hc⟩ := hrun
          refine ⟨1 + c, fun d => ?_⟩
          rw [show d + (1 + c) = d + 1 + c by omega, hc]
          show (if ¬ skip T n k < n ∧ g = -1 ∧ F ≠ [] then _ else _) = _
          rw [if_pos ⟨c6, cg, cF⟩]
      · exact bn_f cg (s49 (fun z => cg z.2.1))
  · have fin : post (fI y 10 3) y := by
      rw [z1.2.2.1]
      exact pE e y ce f1 (hE ce)
    refine ⟨fun _ => fin, fun _ => c_good ?_⟩
    rw [if_neg (fun z => ce (z1.2.2.1.symm.trans z))]
    exact br_t rfl fin
