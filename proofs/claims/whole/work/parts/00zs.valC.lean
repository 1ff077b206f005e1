/-! the class reads a RECORD: values -/
theorem cB_leaf {F : List SFd} {f : Nat} (h : f < F.length) (ht : fTy F f ≠ 4) : cB F (f + 1) = cB F f + 1 := by
  unfold cB
  have e2 : F.getD f fd0 = F[f] := by rw [List.getD_eq_getElem?_getD, List.getElem?_eq_getElem h]; rfl
  rw [List.take_succ_eq_append_getElem h, ncol_app]
  show _ + ((if F[f].2.1 = 4 then 0 else 1) + 0) = _
  rw [if_neg (by rw [← e2]; exact ht)]
theorem cB_grp {F : List SFd} {f : Nat} (h : f < F.length) (ht : fTy F f = 4) : cB F (f + 1) = cB F f := by
  unfold cB
  have e2 : F.getD f fd0 = F[f] := by rw [List.getD_eq_getElem?_getD, List.getElem?_eq_getElem h]; rfl
  rw [List.take_succ_eq_append_getElem h, ncol_app]
  show _ + ((if F[f].2.1 = 4 then 0 else 1) + 0) = _
  rw [if_pos (by rw [← e2]; exact ht)]
  rfl
theorem cB_inj {F : List SFd} {f h : Nat} (hf : f < F.length) (hh : h < F.length) (tf : fTy F f ≠ 4) (th : fTy F h ≠ 4) (e : cB F f = cB F h) : f = h := by
  rcases Nat.lt_trichotomy f h with c | c | c
  · have := cB_leaf hf tf
    have := @cB_mono F (f + 1) h c
    omega
  · exact c
  · have := cB_leaf hh th
    have := @cB_mono F (h + 1) f c
    omega
theorem cB_lt {F : List SFd} {f : Nat} (hw : WfS F) (hf : f < F.length) (tf : fTy F f ≠ 4) : cB F f < ncol F := ncol_lt hf tf
theorem txC_no {F : List SFd} {f : Nat} (hf : f < F.length) (tf : fTy F f ≠ 4) (t3 : fTy F f ≠ 3) : ¬ txC F (cB F f) := by
  rintro ⟨h, h1, h2, h3⟩
  have := cB_inj h1 hf (by rw [h2]; decide) tf h3
  subst this
  exact t3 h2
theorem RcC.b {x y : St} {F : List SFd} {E : List SEn} {t hi : Nat} (h : RcC x F E t) (f : FrB 42 t hi x y) : RcC y F E t := by
  obtain ⟨f1, f2, f3, f4, f5, f6⟩ := f
  obtain ⟨h1, h2, h3⟩ := h
  refine ⟨(f1 36 3 (by decide)).trans h1, (f1 36 4 (by decide)).trans h2, fun i a b => ?_⟩
  obtain ⟨g1, g2, g3, g4, g5, g6, g7⟩ := h3 i a b
  have eL : fL y 39 = fL x 39 := by show y.2.2.2.2.1 39 = _; rw [f6]
  refine ⟨by rw [show fA y 40 = fA x 40 from f4 40 (by decide)]; exact g1, by rw [show fA y 37 = fA x 37 from f4 37 (by decide)]; exact g2, by rw [show fA y 38 = fA x 38 from f4 38 (by decide)]; exact g3, g4, g5, g6, ?_⟩
  rw [eL]
  exact g7.cg (fun i hi => f5 i (Or.inl hi)) (Nat.le_refl _)
theorem RcC.g {x : St} {F : List SFd} {E : List SEn} {t u : Nat} (h : RcC x F E t) (hu : t ≤ u) : RcC (setI x 36 4 (nI u)) F E u := by
  obtain ⟨h1, h2, h3⟩ := h
  refine ⟨by rw [gI_ne (by decide)]; exact h1, gI_at, fun i a b => ?_⟩
  obtain ⟨g1, g2, g3, g4, g5, g6, g7⟩ := h3 i a b
  exact ⟨g1, g2, g3, g4, g5, g6, g7.cg (fun _ _ => rfl) hu⟩
theorem ty1 {w : Int32} (a : 0 ≤ w) (b : w ≤ 4) (c0 : ¬ w = 0) (c2 : ¬ w = 2) (c3 : ¬ w = 3) (c4 : ¬ w = 4) : w = 1 := by (first | omega | (simp (disch := omega) only [Int32.le_iff_toInt_le, Int32.lt_iff_toInt_lt, z_eq, z_in, nI_toInt, z_cl, z_m1, z_sg, z_255, Int32.reduceToInt] at * <;> omega) | (simp only [Int32.le_iff_toInt_le, Int32.lt_iff_toInt_lt, z_eq, z_in, z_add, z_sub, z_mul, z_neg, z_nI, z_cl, z_sg, z_255, z_lit, Int32.reduceToInt] at * <;> omega))
theorem st_tr : isSt 8 [116, 114, 117, 101] := by unfold isSt; decide +kernel
theorem st_fa : isSt 9 [102, 97, 108, 115, 101] := by unfold isSt; decide +kernel
theorem sk_far {q : Nat} (h : skRow q) : q ≠ 42 ∧ q ≠ 37 ∧ q ≠ 38 ∧ q ≠ 40 := by unfold skRow at h; omega
theorem d_atNumber {post : Int32 → St → Prop} {x : St} {q : Nat} {T : Nat → Int32} {n k : Nat} {e : Int32} (h : ScC x q T n k e) (p : ∀ y, FrT x y → ScC y q T n (skip T n k) e → post (if skip T n k < n ∧ (T (skip T n k) = 45 ∨ dgt (T (skip T n k))) then 1 else 0) y) : wp_Scn_atNumber post 10 x := by
  have hs := @skip_le T n k h.2.2.2
  have hn := h.1.2.2.1
  unfold wp_Scn_atNumber j_Scn_atNumber_18
  refine c_next h.1 h.2.1 (Nat.le_trans h.2.2.2 hn) ?_
  have p := p _ FrT.i (h.go hs)
  by_cases c : skip T n k < n
  · rw [if_pos c]
    by_cases c1 : T (skip T n k) = 45
    · rw [if_pos ⟨c, Or.inl c1⟩] at p
      exact br_t c1 p
    · refine br_f c1 (c_isDigit ?_)
      by_cases c2 : dgt (T (skip T n k))
      · rw [if_pos ⟨c, Or.inr c2⟩] at p
        rw [if_pos c2]
        exact br_f (by decide) p
      · rw [if_neg (fun z => z.2.elim c1 c2)] at p
        rw [if_neg c2]
        exact br_t rfl p
  · rw [if_neg (fun z => c z.1)] at p
    rw [if_neg c]
    refine br_f (by decide) (c_isDigit ?_)
    rw [if_neg (by decide)]
    exact br_t rfl p
theorem nmF_no {T : Nat → Int32} {n k : Nat} (hk : k ≤ n) (h : ¬ (k < n ∧ (T k = 45 ∨ dgt (T k)))) : nmF T n k = (nI k, k, 0) := by
  have e : nmK T n k = k := by unfold nmK; rw [if_neg (fun z => h ⟨z.1, Or.inl z.2⟩)]
  unfold nmF
  rw [e, if_pos (fun z => h ⟨z.1, Or.inr z.2⟩)]
  by_cases c : k = n
  · rw [if_pos c, c]
  · rw [if_neg c]
theorem lN_ref {t m : Nat} (ht : t < 2 ^ 31) (hm : m < 2 ^ 31) : (nI t).toInt64 * 256 + (nI m).toInt64 = lN (256 * t + m) := by
  rw [nI_l ht, nI_l hm, show (256 : Int64) = lN 256 from rfl, lN_mul, lN_add, Nat.mul_comm]
theorem d_readValue {post : Int64 → St → Prop} {x : St} {q : Nat} {T : Nat → Int32} {n k : Nat} {F : List SFd} {P : PGr} {s p f t e0 t0 : Nat} {E : List SEn} {L : List SNd} (hs : SchId s) (hw : WfS F) (hq : skRow q) (h : ScC x q T n k (-1)) (hv : RvC x F s E t) (hf : f < F.length) (hty : fTy F f ≠ 4) (hn : n ≤ 4000) (ht : t ≤ 60000 + k) (ht0 : t0 ≤ t)
    (p1 : (pVal T n F P k p f L).1 = -1 → ∀ y u v w b, FrZ e0 t0 x y → ScC y q T n (pVal T n F P k p f L).2.1 (-1) → RvC y F s E u → VlC y F u (cB F f) v w b → (pVal T n F P k p f L).2.2 = L ++ [(nI p, nI f, w, b)] → u = t + b.length → u + k ≤ t + (pVal T n F P k p f L).2.1 → k < (pVal T n F P k p f L).2.1 → post v y)
    (p0 : (pVal T n F P k p f L).1 ≠ -1 → ∀ y v j, FrZ e0 t0 x y → ScC y q T n j (pVal T n F P k p f L).1 → post v y) : wp_Rec_readValue post 36 (fTy F f) x := by
  have hk := h.2.2.2
  have hs1 := @skip_le T n k hk
  have hg1 := skip_ge T n k
  have nn : ¬ nI (skip T n k) = -1 := nI_nm1 (by omega)
  have e0' : pVal T n F P k p f L = if fTy F f = 3 then
    (if skip T n k < n ∧ T (skip T n k) = 39 then
      (if (qtO T n (skip T n k + 1) []).1 = -1 then (-1, (qtO T n (skip T n k + 1) []).2.1, L ++ [(nI p, nI f, 0, (qtO T n (skip T n k + 1) []).2.2)])
      else ((qtO T n (skip T n k + 1) []).1, skip T n k, L))
    else (nI (skip T n k), skip T n k, L))
  else if fTy F f = 0 then
    (if isWd T n (skip T n k) [116, 114, 117, 101] then (-1, skip T n k + 4, L ++ [(nI p, nI f, 1, [])])
    else if isWd T n (skip T n k) [102, 97, 108, 115, 101] then (-1, skip T n k + 5, L ++ [(nI p, nI f, 0, [])])
    else (nI (skip T n k), skip T n k, L))
  else
    (if (nmF T n (skip T n k)).1 = -1 then
      (if fTy F f = 1 ∧ ¬ (nmF T n (skip T n k)).2.2 = (nmF T n (skip T n k)).2.2.toInt32.toInt64 then (nI (skip T n k), skip T n k, L)
      else (-1, (nmF T n (skip T n k)).2.1, L ++ [(nI p, nI f, (nmF T n (skip T n k)).2.2, [])]))
    else ((nmF T n (skip T n k)).1, skip T n k, L)) := by unfold pVal; rw [if_neg hty]
  -- nothing that could be a value stands here
  have bad : pVal T n F P k p f L = (nI (skip T n k), skip T n k, L) → ∀ l1 Y, FrT x Y → ScC Y q T n (skip T n k) (-1) → j_Rec_readValue_134 post 36 l1 Y := by
    intro e l1 Y f1 f2
    have vY := hv.t hs f1
    unfold j_Rec_readValue_134
    refine ⟨10, vY.2.2.1, 10, vY.2.2.1, ?_⟩
    rw [f2.2.1]
    refine c_refuse ?_
    rw [if_pos f2.2.2.1]
    rw [e] at p0
    exact p0 nn _ _ _ (f1.trans FrT.i).z f2.ill
  have hT := hw.2.2.2.1 f hf
  have hkn : k ≤ 40000 := by omega
  unfold wp_Rec_readValue
  by_cases c3 : fTy F f = 3
  · rw [if_pos c3] at e0'
    refine bn_f (by rw [c3]; decide) (bn_t c3 ⟨10, hv.2.2.1, c_next h.1 h.2.1 hkn ?_⟩)
    have sY := h.go hs1
    have vY : RvC (setI x 10 2 (nI (skip T n k))) F s E t := hv.t hs FrT.i
    have fY : FrT x (setI x 10 2 (nI (skip T n k))) := FrT.i
    by_cases c : skip T n k < n ∧ T (skip T n k) = 39
    · rw [if_pos c] at e0'
      rw [if_pos c.1]
      generalize setI x 10 2 (nI (skip T n k)) = Y at sY vY fY ⊢
      have e42 : stC 36 12 = 42 := by decide +kernel
      have l42 : fN Y 42 = 64000 := vY.1 42 (by decide)
      refine bn_t c.2 ⟨10, vY.2.2.1, ?_⟩
      rw [e42, vY.2.2.2.2.2.1]
      refine d_readQuoted sY c.1 (sk_far hq).1 (by omega) (by omega) (fun z1 y g1 g2 g3 g4 g5 g6 => ?_) (fun z1 y j m g1 g2 g3 g4 g5 => ?_)
      · rw [if_pos z1] at e0'
        have r1 := vY.2.2.2.2.b g1
        have z0 : FrZ e0 t0 x y := fY.z.trans (g1.z ht0)
        have vy := hv.e hs z0 r1
        generalize hQ : qtO T n (skip T n k + 1) [] = Q at *
        refine ⟨10, vy.2.2.1, ?_⟩
        unfold wp_V_reference
        refine ⟨10, vy.2.2.1, nm_r (e' := setI y 36 4 (nI (t + Q.2.2.length))) (by rw [r1.2.1, g3, nI_add]) ?_⟩
        rw [r1.2.1, g3, lN_ref (by omega) (by omega)]
        rw [e0'] at p1
        refine p1 rfl _ (t + Q.2.2.length) _ 0 Q.2.2 (z0.trans (FrZ.i (by decide))) ⟨g2.1, g2.2.1, g2.2.2.1, g2.2.2.2⟩ (vy.e hs (FrZ.i (e0 := 0) (t0 := 0) (by decide)) (r1.g (by omega))) ⟨fun z => absurd ⟨f, hf, c3, rfl⟩ z, fun _ => ⟨g5, t, rfl, Nat.le_refl _, g4⟩⟩ rfl rfl (by show t + _ + k ≤ t + Q.2.1; omega) (by show k < Q.2.1; omega)
      · rw [if_neg z1] at e0'
        have r1 := vY.2.2.2.2.b g1
        have z0 : FrZ e0 t0 x y := fY.z.trans (g1.z ht0)
        have vy := hv.e hs z0 r1
        refine ⟨10, vy.2.2.1, ?_⟩
        unfold wp_V_reference
        refine ⟨10, vy.2.2.1, nm_e ?_⟩
        rw [e0'] at p0
        exact p0 z1 _ _ j (z0.trans (FrZ.i (by decide))) ⟨g2.1, g2.2.1, g2.2.2.1, g2.2.2.2⟩
    · rw [if_neg c] at e0'
      refine bn_f (fun z => ?_) ?_
      · by_cases c1 : skip T n k < n
        · rw [if_pos c1] at z; exact c ⟨c1, z⟩
        · rw [if_neg c1] at z; exact absurd z (by decide)
      · unfold j_Rec_readValue_94
        exact br_t c3 (bad e0' _ _ fY sY)
  rw [if_neg c3] at e0'
  by_cases c0 : fTy F f = 0
  · rw [if_pos c0] at e0'
    refine bn_t c0 ⟨10, hv.2.2.1, d_takeWord h st_tr (by decide) (fun c y f1 f2 => br_f (by decide) ?_) (fun c y f1 f2 => br_t rfl ⟨10, (hv.t hs f1.t).2.2.1, d_needWord f2 st_fa (by decide) (fun c2 z g1 g2 => ?_) (fun c2 z g1 g2 => ?_)⟩)⟩
    · rw [if_pos c] at e0'
      rw [e0'] at p1
      exact p1 rfl y t 1 1 [] f1.t.z f2 (hv.t hs f1.t) ⟨fun _ => rfl, fun z => absurd z (txC_no hf hty c3)⟩ rfl rfl (by show t + k ≤ t + (skip T n k + 4); omega) (by show k < skip T n k + 4; omega)
    · rw [skip_skip] at c2 g2
      rw [if_neg c, if_pos c2] at e0'
      rw [e0'] at p1
      have f3 := f1.t.trans g1.t
      exact p1 rfl z t 0 0 [] f3.z g2 (hv.t hs f3) ⟨fun _ => rfl, fun z => absurd z (txC_no hf hty c3)⟩ rfl rfl (by show t + k ≤ t + (skip T n k + 5); omega) (by show k < skip T n k + 5; omega)
    · rw [skip_skip] at c2 g2
      rw [if_neg c, if_neg c2] at e0'
      rw [e0'] at p0
      exact p0 nn z 0 _ (f1.t.trans g1.t).z g2
  rw [if_neg c0] at e0'
  refine bn_f c0 (bn_f c3 ?_)
  unfold j_Rec_readValue_94 j_Rec_readValue_123
  refine br_f c3 ⟨10, hv.2.2.1, d_atNumber h (fun Y f1 f2 => ?_)⟩
  have vY := hv.t hs f1
  by_cases c : skip T n k < n ∧ (T (skip T n k) = 45 ∨ dgt (T (skip T n k)))
  · rw [if_pos c]
    refine br_f (by decide) ⟨10, vY.2.2.1, ?_⟩
    have num : ∀ wd : Int32, (wd = 0 ↔ fTy F f = 1) → wp_Scn_readNumber (fun x4 => ∃ q5 : Nat, fR x4 36 13 = some q5 ∧ post (fJ x4 q5 6) x4) 10 wd Y := by
      intro wd hwd
      refine d_readNumber f2 (fun k2 v z1 z2 y g1 g2 g3 => ?_) (fun k2 e z1 y g1 g2 => ?_)
      · have f3 := f1.trans g1
        refine ⟨10, (hv.t hs f3).2.2.1, ?_⟩
        rw [g3]
        have hz := nmOk_k hs1 z1
        rw [nmF_ok z1, if_pos rfl, if_neg (fun z => z.2 (z2 (hwd.mpr z.1)))] at e0'
        rw [e0'] at p1
        exact p1 rfl y t v v [] f3.z g2 (hv.t hs f3) ⟨fun _ => rfl, fun z => absurd z (txC_no hf hty c3)⟩ rfl rfl (by show t + k ≤ t + k2; omega) (by show k < k2; omega)
      · have f3 := f1.trans g1
        refine ⟨10, (hv.t hs f3).2.2.1, ?_⟩
        rcases z1 with z1 | ⟨v, z1, z2, z3, z4⟩
        · have hz := nmF_er z1
          have hz2 := nmEr_e hs1 z1
          have ne : ¬ nI e = -1 := nI_nm1 (by omega)
          rw [if_neg (by rw [hz.1]; exact ne), hz.1] at e0'
          rw [e0'] at p0
          exact p0 ne y _ _ f3.z g2
        · rw [nmF_ok z1, if_pos rfl, if_pos ⟨hwd.mp z2, z3⟩] at e0'
          rw [e0'] at p0
          rw [z4] at g2
          exact p0 nn y _ _ f3.z g2
    by_cases c2 : fTy F f = 2
    · exact bn_t c2 (num 1 ⟨fun z => absurd z (by decide), fun z => by rw [c2] at z; exact absurd z (by decide)⟩)
    · refine bn_f c2 (num 0 ⟨fun _ => ?_, fun _ => rfl⟩)
      exact ty1 hT.2.1 hT.2.2.1 c0 c2 c3 hty
  · rw [if_neg c]
    refine br_t rfl (bad ?_ _ Y f1 f2)
    rw [nmF_no hs1 c, if_neg nn] at e0'
    exact e0'
/-- all bytes of texts of entries -/
def tx : List SEn → Nat
  | [] => 0
  | z :: E => z.2.2.2.2.length + tx E
theorem tx_app (E G : List SEn) : tx (E ++ G) = tx E + tx G := by
  induction E with
  | nil => show tx G = 0 + tx G; omega
  | cons z E ih => show z.2.2.2.2.length + tx (E ++ G) = z.2.2.2.2.length + tx E + tx G; omega
theorem tx_mis {F : List SFd} {a b r : Nat} {g : Int32} : tx (misE F a b r g) = 0 := by
  unfold misE
  generalize cB F b - cB F a = m
  induction m with
  | zero => rfl
  | succ m ih => rw [List.range_succ, List.map_append, tx_app, ih]; rfl
/-- a column's value, with its entry -/
theorem d_leaf {post : St → Prop} {SG SO SV : (St → Prop) → Nat → Int32 → Int32 → Int32 → St → Prop} {x : St} {q : Nat} {T : Nat → Int32} {n k : Nat} {F : List SFd} {P : PGr} {Q : EGr} {s p f t r e0 t0 : Nat} {E : List SEn} {L : List SNd} {l3 : Int32} (hs : SchId s) (hw : WfS F) (hq : skRow q) (h : ScC x q T n k (-1)) (hv : RvC x F s E t) (hf : f < F.length) (hty : fTy F f ≠ 4) (hn : n ≤ 4000) (ht : t ≤ 60000 + k) (ht0 : t0 ≤ t) (he : e0 ≤ E.length) (hb : E.length < 2 ^ 29) (hr : r < 128)
    (p1 : (pVal T n F P k p f L).1 = -1 → ∀ y u, FrZ e0 t0 x y → ScC y q T n (pVal T n F P k p f L).2.1 (-1) → RvC y F s (E ++ eVal T n F P Q k p f L r) u → u = t + tx (eVal T n F P Q k p f L r) → u + k ≤ t + (pVal T n F P k p f L).2.1 → k < (pVal T n F P k p f L).2.1 → post y)
    (p0 : (pVal T n F P k p f L).1 ≠ -1 → ∀ y j, FrZ e0 t0 x y → ScC y q T n j (pVal T n F P k p f L).1 → post y) : wb_Rec_readOne post SG SO SV 36 (nI f) (nI r) l3 x := by
  have hF := hw.1
  unfold wb_Rec_readOne
  have vin : ∀ (Y : St) (j : Nat), LC Y → 2 ≤ j → j ≤ 12 → lenS j = 128 → vp_in (nI f) (fN Y (stC s j)) := fun Y j a b c d => by rw [a.s hs b c, d]; exact vp_in_nI (by omega) (by decide)
  refine ⟨s, hv.2.2.2.1, vin x 3 hv.1 (by decide) (by decide) rfl, ?_⟩
  rw [rA_nI (by omega), (hv.2.1.2.2.2.1 f hf).2.1]
  refine bn_f hty ⟨s, hv.2.2.2.1, vin x 3 hv.1 (by decide) (by decide) rfl, ?_⟩
  rw [rA_nI (by omega), (hv.2.1.2.2.2.1 f hf).2.1]
  refine d_readValue (P := P) (p := p) (L := L) (e0 := e0) (t0 := t0) hs hw hq h hv hf hty hn ht ht0 (fun z y u v w b g1 g2 g3 g4 g5 g6 g7 g8 => ?_) (fun z y v j g1 g2 => ?_)
  · refine ⟨10, g3.2.2.1, c_good ?_⟩
    rw [if_pos g2.2.2.1]
    refine br_f (by decide) ⟨s, g3.2.2.2.1, vin y 9 g3.1 (by decide) (by decide) rfl, s, g3.2.2.2.1, vin y 6 g3.1 (by decide) (by decide) rfl, ?_⟩
    rw [rA_nI (by omega), rA_nI (by omega), (g3.2.1.2.2.2.1 f hf).2.2.2.2.2.2.2.1, (g3.2.1.2.2.2.1 f hf).2.2.2.2.1]
    have hc := cB_lt hw hf hty
    have hC := hw.2.1
    have hd := dG_le hw (Or.inr ⟨f, hf, rfl⟩ : gOk F.length (nI f))
    refine d_enter (w := w) (b := b) (e0 := e0) (t0 := t0) g3.1 g3.2.2.2.2 he (by omega) (show cB F f < 64 by omega) hr (show dG F (nI f) < 128 by omega) g4 (fun Y y1 y2 y3 => ?_)
    have e : eVal T n F P Q k p f L r = [(cB F f, r, dG F (nI f), w, b)] := by
      unfold eVal
      rw [if_neg hty, g5, ndNew]
    refine p1 z Y u (g1.trans y1) ?_ ?_ (by rw [e]; exact g6) g7 g8
    · refine ⟨?_, (y2 2).trans g2.2.1, (y2 3).trans g2.2.2.1, g2.2.2.2⟩
      obtain ⟨a1, a2, a3, a4, a5, a6⟩ := g2.1
      have sf := sk_far hq
      refine ⟨by show Y.2.2.1 10 0 = _; rw [y1.2.2.1]; exact a1, (y2 1).trans a2, a3, by show n ≤ Y.2.2.2.2.2 q; rw [y1.2.2.2.2.2.2.2]; exact a4, by show Y.2.2.2.2.2 q < _; rw [y1.2.2.2.2.2.2.2]; exact a5, fun i hi => ?_⟩
      rw [show fA Y q = fA y q from y1.2.2.2.1 q (by omega)]
      exact a6 i hi
    · rw [e]
      exact g3.e hs y1 y3
  · have e13 : fR y 36 13 = some 10 := by show y.2.2.1 36 13 = _; rw [g1.2.2.1]; exact hv.2.2.1
    refine ⟨10, e13, c_good ?_⟩
    rw [if_neg (by rw [g2.2.2.1]; exact z)]
    exact br_t rfl (p0 z y j g1 g2)
