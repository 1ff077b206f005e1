/-! the model: a RECORD comes -/
theorem s_stripe {F : List SFd} {L : List SNd} {s : Nat} {E0 : List SEn} {c leaf : Nat} (hw : WfS F) (hl : leaf < F.length) (hty : fTy F leaf ≠ 4) (hc : cB F leaf = c) (hs : s ≤ 4100) (hn : L.length ≤ 4100) : ∀ m d, m < d → m < upS wOne (fPa F) (nI leaf) → okS F L s E0 c leaf m (wr_Mod_stripe d) := by
  intro m
  induction m with
  | zero =>
    intro d hd hm
    obtain ⟨d, rfl⟩ : ∃ e, d = e + 1 := ⟨d - 1, by omega⟩
    exact s_stripe1 hw hl hty hc hm hs hn (fun m' e => by omega)
  | succ m ih =>
    intro d hd hm
    obtain ⟨d, rfl⟩ : ∃ e, d = e + 1 := ⟨d - 1, by omega⟩
    exact s_stripe1 hw hl hty hc hm hs hn (fun m' e => by
      have : m' = m := by omega
      subst this
      exact ih d (by omega) (by omega))
theorem lf_ex {F : List SFd} : ∀ N, N ≤ F.length → ∀ c, c < cB F N → ∃ f, f < N ∧ fTy F f ≠ 4 ∧ cB F f = c := by
  intro N
  induction N with
  | zero => intro _ c h; exact absurd h (Nat.not_lt_zero c)
  | succ N ih =>
    intro hN c h
    by_cases t : fTy F N = 4
    · rw [cB_grp (by omega) t] at h
      obtain ⟨f, f1, f2⟩ := ih (by omega) c h
      exact ⟨f, by omega, f2⟩
    · rw [cB_leaf (by omega) t] at h
      by_cases e : c = cB F N
      · exact ⟨N, by omega, t, e.symm⟩
      · obtain ⟨f, f1, f2⟩ := ih (by omega) c (by omega)
        exact ⟨f, by omega, f2⟩
/-- the field of a column -/
def lfC (F : List SFd) (c : Nat) : Nat := ((List.range F.length).filter (fun f => decide (fTy F f ≠ 4 ∧ cB F f = c))).headD 0
theorem lfC_ok {F : List SFd} {c : Nat} (h : c < ncol F) : lfC F c < F.length ∧ fTy F (lfC F c) ≠ 4 ∧ cB F (lfC F c) = c := by
  have e : cB F F.length = ncol F := by unfold cB; rw [List.take_length]
  obtain ⟨f, f1, f2, f3⟩ := lf_ex F.length (Nat.le_refl _) c (by rw [e]; exact h)
  have hm : f ∈ (List.range F.length).filter (fun f => decide (fTy F f ≠ 4 ∧ cB F f = c)) := List.mem_filter.mpr ⟨List.mem_range.mpr f1, decide_eq_true ⟨f2, f3⟩⟩
  have key : lfC F c ∈ (List.range F.length).filter (fun f => decide (fTy F f ≠ 4 ∧ cB F f = c)) := by
    unfold lfC
    cases hh : (List.range F.length).filter (fun f => decide (fTy F f ≠ 4 ∧ cB F f = c)) with
    | nil => rw [hh] at hm; exact absurd hm (by simp)
    | cons a l => exact List.mem_cons_self
  have := List.mem_filter.mp key
  have h2 := of_decide_eq_true this.2
  exact ⟨List.mem_range.mp this.1, h2.1, h2.2⟩
theorem lfC_of {F : List SFd} {f : Nat} (hf : f < F.length) (ht : fTy F f ≠ 4) : lfC F (cB F f) = f := by
  have h := lfC_ok (F := F) (c := cB F f) (ncol_lt hf ht)
  exact cB_inj h.1 hf h.2.1 ht h.2.2
/-- the entries of a record, column by column -/
def colS (F : List SFd) (L : List SNd) (c : Nat) : List SEn := strF F L c (lfC F c) (upS wOne (fPa F) (nI (lfC F c)) - 1) 0 0 0
def rowS (F : List SFd) (L : List SNd) (C : Nat) : List SEn := (List.range C).flatMap (colS F L)
theorem rowS_s {F : List SFd} {L : List SNd} {C : Nat} : rowS F L (C + 1) = rowS F L C ++ colS F L C := by
  unfold rowS
  rw [List.range_succ, List.flatMap_append]
  simp
/-- the model's records: rows of entries -/
def RcM (x : St) (RS : List (List SEn)) : Prop := EnM x RS.flatten ∧ OkE RS.flatten ∧ fI x 0 34 = nI RS.length ∧ RS.length ≤ 2000 ∧ ∀ i, i ≤ RS.length → fA x 23 i = nI (RS.take i).flatten.length
abbrev FrMr (x y : St) : Prop := Fg (fun o k => o = 0 ∧ (k = 0 ∨ k = 4 ∨ 15 ≤ k ∧ k ≤ 17 ∨ k = 24 ∨ k = 25 ∨ 34 ≤ k ∧ k ≤ 37)) no2 no2 (fun a => 12 ≤ a ∧ a ≤ 16 ∨ 18 ≤ a ∧ a ≤ 24) (fun a => a = 17 ∨ a = 25) x y
theorem FrR.mr {x y : St} (f : FrR x y) : FrMr x y := ⟨fun o k c => f.1 o k (fun z => c (by omega)), fun o k _ => by rw [f.2.2.1], fun o k _ => by rw [f.2.2.2.1], fun a c => f.2.1 a (fun z => c (by omega)), fun a c => f.2.2.2.2.1 a (fun z => c (by omega)), f.2.2.2.2.2⟩
theorem FrE.mr {e0 t0 : Nat} {x y : St} (f : FrE e0 t0 x y) : FrMr x y := ⟨fun o k c => f.1 o k (fun z => c (by omega)), fun o k _ => by rw [f.2.1], fun o k _ => by rw [f.2.2.1], fun a c => f.2.2.2.1 a (fun z => c (by omega)), fun a c => f.2.2.2.2.2.1 a (fun z => c (by omega)), f.2.2.2.2.2.2.2⟩
theorem RcM.cg {x y : St} {RS : List (List SEn)} (h : RcM x RS) (hI : ∀ k, k = 34 ∨ k = 35 ∨ k = 36 → fI y 0 k = fI x 0 k) (hA : ∀ a, 18 ≤ a → a ≤ 24 → fA y a = fA x a) (hl : fL y 25 = fL x 25) : RcM y RS := by
  obtain ⟨⟨h1, h2, h3⟩, h4, h5, h6, h7⟩ := h
  refine ⟨⟨(hI 35 (by decide)).trans h1, (hI 36 (by decide)).trans h2, fun i hi => ?_⟩, h4, (hI 34 (by decide)).trans h5, h6, fun i hi => by rw [hA 23 (by decide) (by decide)]; exact h7 i hi⟩
  have := h3 i hi
  unfold EnA at this ⊢
  rw [hA 20 (by decide) (by decide), hA 18 (by decide) (by decide), hA 19 (by decide) (by decide), hA 22 (by decide) (by decide), hA 21 (by decide) (by decide), hA 24 (by decide) (by decide), hl]
  exact this
theorem RcM.r {x y : St} {RS : List (List SEn)} (h : RcM x RS) (f : FrR x y) : RcM y RS := h.cg (fun k hk => f.1 0 k (by omega)) (fun a b c => f.2.1 a (by omega)) (f.2.2.2.2.1 25 (by decide))
theorem RcM.i {x : St} {RS : List (List SEn)} {k : Nat} {v : Int32} (h : RcM x RS) (hk : k ≠ 34 ∧ k ≠ 35 ∧ k ≠ 36) : RcM (setI x 0 k v) RS := h.cg (fun j hj => gI_ne (by omega)) (fun _ _ _ => rfl) rfl
def nd1 : List SNd := [(-1, -1, 0, [])]
theorem s_record {post : Int32 → St → Prop} {x : St} {T : Nat → Int32} {n : Nat} {F : List SFd} {RS : List (List SEn)} (hL : LM x) (h : InM x T n) (hw : WfS F) (hR : RcM x RS) (hS : F ≠ [] → RepM x 0 F) (h14 : fI x 0 14 = if F = [] then 0 else 1)
    (pN : F = [] → ∀ y, FrMr x y → fI y 0 4 = 0 → RcM y RS → post (-2) y)
    (pL : F ≠ [] → 4000 < n → ∀ y, FrMr x y → fI y 0 4 = 0 → RcM y RS → post 4000 y)
    (pE : F ≠ [] → n ≤ 4000 → (pGrp T n F 18 0 (-1) 0 nd1).1 ≠ -1 → ∀ y, FrMr x y → fI y 0 4 = 0 → RcM y RS → post (pGrp T n F 18 0 (-1) 0 nd1).1 y)
    (pM : F ≠ [] → n ≤ 4000 → (pGrp T n F 18 0 (-1) 0 nd1).1 = -1 → skip T n (pGrp T n F 18 0 (-1) 0 nd1).2.1 < n → ∀ y, FrMr x y → fI y 0 4 = 0 → RcM y RS → post (nI (skip T n (pGrp T n F 18 0 (-1) 0 nd1).2.1)) y)
    (pF : F ≠ [] → n ≤ 4000 → (pGrp T n F 18 0 (-1) 0 nd1).1 = -1 → ¬ skip T n (pGrp T n F 18 0 (-1) 0 nd1).2.1 < n → (RS.length = 2000 ∨ ¬ OkE (RS.flatten ++ rowS F (pGrp T n F 18 0 (-1) 0 nd1).2.2 (ncol F))) → ∀ y, FrMr x y → fI y 0 4 = 0 → RcM y RS → post (-2) y)
    (pO : F ≠ [] → n ≤ 4000 → (pGrp T n F 18 0 (-1) 0 nd1).1 = -1 → ¬ skip T n (pGrp T n F 18 0 (-1) 0 nd1).2.1 < n → RS.length < 2000 → OkE (RS.flatten ++ rowS F (pGrp T n F 18 0 (-1) 0 nd1).2.2 (ncol F)) → ∀ y, FrMr x y → fI y 0 4 = 0 → RcM y (RS ++ [rowS F (pGrp T n F 18 0 (-1) 0 nd1).2.2 (ncol F)]) → post (-1) y) : wp_Mod_record post x := by
  obtain ⟨h1, h2, h3⟩ := h
  unfold wp_Mod_record wp_Mod_begins
  refine nm_e (nm_e (nm_e (nm_e (nm_e ?_))))
  rw [show fI (setI x 0 0 0) 0 4 = nI n from h1]
  have fB : FrMr x (setI (setI (setI (setI (setI x 0 0 0) 0 15 (nI n)) 0 4 0) 0 16 0) 0 17 (-1)) := (((Fg.i (by decide)).trans (Fg.i (by decide))).trans (Fg.i (by decide))).trans ((Fg.i (by decide)).trans (Fg.i (by decide)))
  have b4 : fI (setI (setI (setI (setI (setI x 0 0 0) 0 15 (nI n)) 0 4 0) 0 16 0) 0 17 (-1)) 0 4 = 0 := rfl
  have bR : RcM (setI (setI (setI (setI (setI x 0 0 0) 0 15 (nI n)) 0 4 0) 0 16 0) 0 17 (-1)) RS := ((((hR.i (by decide)).i (by decide)).i (by decide)).i (by decide)).i (by decide)
  have b14 : fI (setI (setI (setI (setI (setI x 0 0 0) 0 15 (nI n)) 0 4 0) 0 16 0) 0 17 (-1)) 0 14 = fI x 0 14 := rfl
  have b15 : fI (setI (setI (setI (setI (setI x 0 0 0) 0 15 (nI n)) 0 4 0) 0 16 0) 0 17 (-1)) 0 15 = nI n := rfl
  have bT : TxM (setI (setI (setI (setI (setI x 0 0 0) 0 15 (nI n)) 0 4 0) 0 16 0) 0 17 (-1)) T n := ⟨rfl, h2, hL 2, h3⟩
  have bL : LM (setI (setI (setI (setI (setI x 0 0 0) 0 15 (nI n)) 0 4 0) 0 16 0) 0 17 (-1)) := hL
  have b16 : fI (setI (setI (setI (setI (setI x 0 0 0) 0 15 (nI n)) 0 4 0) 0 16 0) 0 17 (-1)) 0 16 = nI 0 := rfl
  have b17 : fI (setI (setI (setI (setI (setI x 0 0 0) 0 15 (nI n)) 0 4 0) 0 16 0) 0 17 (-1)) 0 17 = -1 := rfl
  have bS : F ≠ [] → RepM (setI (setI (setI (setI (setI x 0 0 0) 0 15 (nI n)) 0 4 0) 0 16 0) 0 17 (-1)) 0 F := hS
  generalize setI (setI (setI (setI (setI x 0 0 0) 0 15 (nI n)) 0 4 0) 0 16 0) 0 17 (-1) = B at *
  rw [b14, h14, b15]
  by_cases cF : F = []
  · exact bn_t (by rw [if_pos cF]) (pN cF B fB b4 bR)
  refine bn_f (by rw [if_neg cF]; decide) ?_
  have bS := bS cF
  by_cases cn : ¬ n ≤ 4000
  · exact br_f (by (first | omega | (simp (disch := omega) only [Int32.le_iff_toInt_le, Int32.lt_iff_toInt_lt, z_eq, z_in, nI_toInt, z_cl, z_m1, z_sg, z_255, Int32.reduceToInt] <;> omega) | (simp only [Int32.le_iff_toInt_le, Int32.lt_iff_toInt_lt, z_eq, z_in, z_add, z_sub, z_mul, z_neg, z_nI, z_cl, z_sg, z_255, z_lit, Int32.reduceToInt] <;> omega))) (pL cF (by omega) B fB b4 bR)
  have cn : n ≤ 4000 := by omega
  refine br_t (by (first | omega | (simp (disch := omega) only [Int32.le_iff_toInt_le, Int32.lt_iff_toInt_lt, z_eq, z_in, nI_toInt, z_cl, z_m1, z_sg, z_255, Int32.reduceToInt] <;> omega) | (simp only [Int32.le_iff_toInt_le, Int32.lt_iff_toInt_lt, z_eq, z_in, z_add, z_sub, z_mul, z_neg, z_nI, z_cl, z_sg, z_255, z_lit, Int32.reduceToInt] <;> omega))) (nm_e (nm_e ⟨by show vp_in 0 (fN B 12); rw [bL 12]; exact vp_in_nI (n := 0) (by decide) (by decide), nm_e ⟨by show vp_in 0 (fN B 13); rw [bL 13]; exact vp_in_nI (n := 0) (by decide) (by decide), nm_e ?_⟩⟩))
  have fC : FrR B (setA (setA (setI (setI B 0 24 1) 0 25 0) 12 0 (-1)) 13 0 (-1)) := ((FrR.i (by decide)).trans (FrR.i (by decide))).trans ((FrR.a (by decide)).trans (FrR.a (by decide)))
  have cR : RsM (setA (setA (setI (setI B 0 24 1) 0 25 0) 12 0 (-1)) 13 0 (-1)) T n F 0 nd1 0 := by
    refine ⟨bT.r fC, bL.r fC, bS.r fC, hw, b16, b17, ⟨rfl, by decide, rfl, fun i hi => ?_⟩, Nat.zero_le _, cn, by decide, Nat.le_refl _⟩
    have e : i = 0 := by simp [nd1] at hi; exact hi
    subst e
    refine ⟨?_, ?_, fun z => absurd z (by decide)⟩
    · rw [gA_at]; exact upd_at
    · rw [gA_ne (by decide), gA_at]; exact upd_at
  have fC2 := fB.trans fC.mr
  have rC := bR.r fC
  have c4 : fI (setA (setA (setI (setI B 0 24 1) 0 25 0) 12 0 (-1)) 13 0 (-1)) 0 4 = 0 := b4
  generalize setA (setA (setI (setI B 0 24 1) 0 25 0) 12 0 (-1)) 13 0 (-1) = C at *
  unfold wp_Mod_readGroup
  refine s_grp (T := T) (n := n) (F := F) 18 200 (by decide) _ C 0 0 (-1) nd1 0 cR (Or.inl rfl) (by omega) (fun y o => ?_)
  have fy := fC2.trans o.1.mr
  have ry := rC.r o.1
  have y4 : fI y 0 4 = 0 := (o.1.1 0 4 (by decide)).trans c4
  generalize hRr : pGrp T n F 18 0 (-1) 0 nd1 = Rr at *
  rcases o.2 with ⟨o1, o2, o3, s, o4⟩ | ⟨o1, o2, j, o3, o4⟩
  · have hk := o4.2.2.2.2.2.2.2.1
    have hs1 := @skip_le T n Rr.2.1 hk
    refine s_blanks o4.1 o4.2.2.2.2.1 (by omega) ?_
    have h5 := o4.go (skip_ge T n Rr.2.1) hs1
    have f5 : FrMr x (setI y 0 16 (nI (skip T n Rr.2.1))) := fy.trans (Fg.i (by decide))
    have r5 := ry.i (k := 16) (v := nI (skip T n Rr.2.1)) (by decide)
    have y5 : fI (setI y 0 16 (nI (skip T n Rr.2.1))) 0 4 = 0 := y4
    generalize setI y 0 16 (nI (skip T n Rr.2.1)) = Y at *
    refine bn_t h5.2.2.2.2.2.1 ?_
    rw [show fI Y 0 15 = nI n from h5.1.1, h5.2.2.2.2.1]
    by_cases c1 : skip T n Rr.2.1 < n
    · refine br_f (by (first | omega | (simp (disch := omega) only [Int32.le_iff_toInt_le, Int32.lt_iff_toInt_lt, z_eq, z_in, nI_toInt, z_cl, z_m1, z_sg, z_255, Int32.reduceToInt] <;> omega) | (simp only [Int32.le_iff_toInt_le, Int32.lt_iff_toInt_lt, z_eq, z_in, z_add, z_sub, z_mul, z_neg, z_nI, z_cl, z_sg, z_255, z_lit, Int32.reduceToInt] <;> omega))) (s_fail ?_)
      rw [if_pos h5.2.2.2.2.2.1]
      unfold j_Mod_record_94
      refine br_f (by rw [gI_at]; exact nI_nm1 (by omega)) ?_
      rw [gI_at]
      exact pM cF cn o1 c1 _ (f5.trans (Fg.i (by decide))) y5 (r5.i (by decide))
    · refine br_t (by (first | omega | (simp (disch := omega) only [Int32.le_iff_toInt_le, Int32.lt_iff_toInt_lt, z_eq, z_in, nI_toInt, z_cl, z_m1, z_sg, z_255, Int32.reduceToInt] <;> omega) | (simp only [Int32.le_iff_toInt_le, Int32.lt_iff_toInt_lt, z_eq, z_in, z_add, z_sub, z_mul, z_neg, z_nI, z_cl, z_sg, z_255, z_lit, Int32.reduceToInt] <;> omega))) ?_
      unfold j_Mod_record_94
      refine br_t h5.2.2.2.2.2.1 ?_
      rw [r5.2.2.1]
      have hl4 := r5.2.2.2.1
      by_cases c2 : RS.length = 2000
      · exact bn_t (by rw [c2]; rfl) (pF cF cn o1 c1 (Or.inl c2) Y f5 y5 r5)
      refine bn_f (fun z => c2 ((nI_eq (b := 2000) (by omega) (by decide)).mp z)) (nm_e (nm_e (nm_e ?_)))
      rw [r5.1.1, r5.1.2.1]
      have hn4 := h5.2.2.2.2.2.2.2.2.2.1
      have hs4 := h5.2.2.2.2.2.2.2.2.2.2
      have s0 : SpM (setI Y 0 37 0) F Rr.2.2 s RS.flatten [] := by
        have f37 : FrE RS.flatten.length (tx RS.flatten) Y (setI Y 0 37 0) := FrE.i (by decide)
        refine ⟨h5.2.1.e f37, h5.2.2.1.e f37, h5.2.2.2.2.2.2.1.e f37, fun i hi => (r5.1.2.2 i hi).fr hi f37 (Nat.le_refl _) (Nat.le_refl _), Or.inl ?_⟩
        rw [List.append_nil]
        exact ⟨r5.2.1, rfl, r5.1.1, r5.1.2.1, fun i hi => (r5.1.2.2 i hi).fr hi f37 (Nat.le_refl _) (Nat.le_refl _)⟩
      have g0 : FrE RS.flatten.length (tx RS.flatten) Y (setI Y 0 37 0) := FrE.i (by decide)
      refine lp_Mod_record_137 (fun l1 l2 l3 z => nI RS.flatten.length = l1 ∧ nI (tx RS.flatten) = l2 ∧ ∃ c, nI c = l3 ∧ c ≤ ncol F ∧ FrE RS.flatten.length (tx RS.flatten) Y z ∧ SpM z F Rr.2.2 s RS.flatten (rowS F Rr.2.2 c)) (fun _ _ l3 _ => 1000 - l3.toNatClampNeg) ?_ _ _ _ _ ⟨rfl, rfl, 0, rfl, Nat.zero_le _, g0, s0⟩
      rintro R l1 l2 l3 z ⟨rfl, rfl, c, rfl, c1', z1, z2⟩ ih
      have hC := hw.2.1
      unfold j_Mod_record_137
      rw [show rA z 10 0 = nI (ncol F) from z2.2.1.2.1, z2.1 10]
      refine ⟨vp_in_nI (n := 0) (by decide) (by decide), ?_⟩
      by_cases cc : c < ncol F
      · refine br_f (by (first | omega | (simp (disch := omega) only [Int32.le_iff_toInt_le, Int32.lt_iff_toInt_lt, z_eq, z_in, nI_toInt, z_cl, z_m1, z_sg, z_255, Int32.reduceToInt] <;> omega) | (simp only [Int32.le_iff_toInt_le, Int32.lt_iff_toInt_lt, z_eq, z_in, z_add, z_sub, z_mul, z_neg, z_nI, z_cl, z_sg, z_255, z_lit, Int32.reduceToInt] <;> omega))) ?_
        obtain ⟨k1, k2, k3⟩ := lfC_ok cc
        have hup : 0 < upS wOne (fPa F) (nI (lfC F c)) := by rw [upS_at hw.2.2.1 k1]; show 0 < 1 + _; omega
        have h17 := up17 hw (Or.inr ⟨lfC F c, k1, rfl⟩ : gOk F.length (nI (lfC F c))) (w := wOne) (fun _ => Nat.le_refl 1)
        have key := s_stripe (L := Rr.2.2) (s := s) (E0 := RS.flatten) hw k1 k2 k3 (by omega) (by omega) (upS wOne (fPa F) (nI (lfC F c)) - 1) 200 (by omega) (by omega) (fun w => R (nI RS.flatten.length) (nI (tx RS.flatten)) (nI c + 1) w) z 0 0 0 (rowS F Rr.2.2 c) z2 z2.2.2.1.2.1 (fun w w1 w2 => by
          rw [nI_1]
          refine ih _ _ _ _ ⟨rfl, rfl, c + 1, rfl, by omega, z1.trans w1, z2.to w1 (by rw [rowS_s]; exact w2)⟩ ?_
          rw [nI_clamp (by omega), nI_clamp (by omega)]
          omega)
        rw [Nat.sub_self] at key
        exact key
      · have ec : c = ncol F := by omega
        subst ec
        refine br_t (by (first | omega | (simp (disch := omega) only [Int32.le_iff_toInt_le, Int32.lt_iff_toInt_lt, z_eq, z_in, nI_toInt, z_cl, z_m1, z_sg, z_255, Int32.reduceToInt] <;> omega) | (simp only [Int32.le_iff_toInt_le, Int32.lt_iff_toInt_lt, z_eq, z_in, z_add, z_sub, z_mul, z_neg, z_nI, z_cl, z_sg, z_255, z_lit, Int32.reduceToInt] <;> omega))) ?_
        have zI : ∀ k, k ≠ 35 → k ≠ 36 → k ≠ 37 → fI z 0 k = fI Y 0 k := fun k a b c => z1.1 0 k (by omega)
        have l23 : fN z 23 = 2001 := z2.1 23
        have z23 : fA z 23 = fA Y 23 := z1.2.2.2.1 23 (by decide)
        rcases z2.2.2.2.2 with ⟨w1, w2, w3⟩ | ⟨w1, w2⟩
        · have cl : (nI (RS.length + 1)).toNatClampNeg = RS.length + 1 := nI_clamp (by omega)
          refine br_t w2 (nm_r (e' := setI z 0 34 (nI (RS.length + 1))) (by rw [zI 34 (by decide) (by decide) (by decide), r5.2.2.1, nI_1]) ⟨?_, nm_r (e' := setA (setI z 0 34 (nI (RS.length + 1))) 23 (nI (RS.length + 1)) (nI (RS.flatten ++ rowS F Rr.2.2 (ncol F)).length)) ?_ ?_⟩)
          · rw [gI_at]
            show vp_in _ (fN z 23)
            rw [l23]
            exact vp_in_nI (by omega) (by decide)
          · rw [gI_at, gI_ne (by decide), w3.1]
          · have e1 : (RS ++ [rowS F Rr.2.2 (ncol F)]).flatten = RS.flatten ++ rowS F Rr.2.2 (ncol F) := by rw [List.flatten_append]; simp
            refine pO cF cn o1 c1 (by omega) w1 _ ((f5.trans z1.mr).trans ((Fg.i (by decide)).trans (Fg.a (by decide)))) ((zI 4 (by decide) (by decide) (by decide)).trans y5) ⟨⟨?_, ?_, fun i hi => ?_⟩, by rw [e1]; exact w1, ?_, ?_, fun i hi => ?_⟩
            · rw [e1]; exact w3.1
            · rw [e1]; exact w3.2.1
            · rw [e1] at hi ⊢
              have := w3.2.2 i hi
              unfold EnA at this ⊢
              rw [gA_ne (by decide), gA_ne (by decide), gA_ne (by decide), gA_ne (by decide), gA_ne (by decide), gA_ne (by decide)]
              exact this
            · show fI (setI z 0 34 (nI (RS.length + 1))) 0 34 = _
              rw [gI_at, List.length_append]; rfl
            · rw [List.length_append]; show RS.length + 1 ≤ 2000; omega
            · rw [gA_at, cl]
              rw [List.length_append] at hi
              have hi : i ≤ RS.length + 1 := hi
              by_cases e : i = RS.length + 1
              · rw [e, upd_at, List.take_of_length_le (by rw [List.length_append]; exact Nat.le_refl _), e1]
              · rw [upd_ne e, List.take_append_of_le_length (by omega)]
                show fA z 23 i = _
                rw [z23]
                exact r5.2.2.2.2 i (by omega)
        · refine br_f (by rw [w2]; decide) (nm_e (nm_e (pF cF cn o1 c1 (Or.inr w1) _ ((f5.trans z1.mr).trans ((Fg.i (by decide)).trans (Fg.i (by decide)))) ((zI 4 (by decide) (by decide) (by decide)).trans y5) ⟨⟨?_, ?_, fun i hi => ?_⟩, r5.2.1, ?_, hl4, fun i hi => ?_⟩)))
          · rw [gI_ne (by decide), gI_at]
          · rw [gI_at]
          · exact z2.2.2.2.1 i hi
          · rw [gI_ne (by decide), gI_ne (by decide), zI 34 (by decide) (by decide) (by decide)]; exact r5.2.2.1
          · show fA z 23 i = _
            rw [z23]
            exact r5.2.2.2.2 i hi
  · have TY := cR.1.r o.1
    refine s_blanks TY o4 (by omega) (bn_f (show ¬ fI y 0 17 = -1 by rw [o2]; exact o1) ?_)
    unfold j_Mod_record_94
    refine br_f (show ¬ fI y 0 17 = -1 by rw [o2]; exact o1) ?_
    rw [show fI (setI y 0 16 (nI (skip T n j))) 0 17 = Rr.1 from o2]
    exact pE cF cn o1 _ (fy.trans (Fg.i (by decide))) y4 (ry.i (by decide))
