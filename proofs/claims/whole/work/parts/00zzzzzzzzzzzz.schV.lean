/-! schema() and record(), class -/
abbrev FIn (s : Nat) (x y : St) : Prop := Fg (fun a k => a = s ∧ (k = 1 ∨ k = 2)) no2 no2 no1 no1 x y
abbrev FBg (x y : St) : Prop := Fg (fun a _ => a = 10) no2 (fun a k => a = 10 ∧ k = 0) no1 no1 x y
abbrev FSv (s sp : Nat) (x y : St) : Prop := Fg (fun a k => a = 10 ∨ a = sp ∨ a = s ∧ (k = 1 ∨ k = 2) ∨ a = 36 ∧ k ≤ 2) no2 (fun a k => a = 10 ∧ k = 0 ∨ a = 0 ∧ (k = 4 ∨ k = 5)) (fun a => rwS sp a ∨ a = 41 ∨ a = 43 ∨ a = 44) no1 x y
abbrev FRv (s : Nat) (x y : St) : Prop := Fg (fun a k => a = 10 ∨ a = 36 ∨ a = s ∧ (k = 1 ∨ k = 2)) (fun a _ => a = 10) (fun a _ => a = 10 ∨ a = 36) (fun a => a = 37 ∨ a = 38 ∨ a = 40 ∨ a = 41 ∨ a = 42 ∨ a = 43 ∨ a = 44) (fun a => a = 39) x y
theorem Fr.g {I : Nat → Nat → Prop} {A : Nat → Prop} {x y : St} (f : Fr I A x y) : Fg I no2 no2 A no1 x y := ⟨f.1, fun _ _ _ => by rw [f.2.2.1], fun _ _ _ => by rw [f.2.2.2.1], f.2.1, fun _ _ => by rw [f.2.2.2.2], by rw [f.2.2.2.2]⟩
section
variable {x y z : St} {q n s sc sp : Nat} {T : Nat → Int32} {F : List SFd}
theorem k_useI {post : Int32 → St → Prop} (h1 : fR x 0 1 = some s) (hc : fI x s 1 = nI n) (p : ∀ X, FIn s x X → fI X s 1 = 0 → fI X s 2 = 0 → post (nI n) X) : wp_V_useInput post 0 x := by
  unfold wp_V_useInput wp_Snk_forget
  refine ⟨s, h1, nm_r hc ⟨s, h1, nm_e (nm_e (p _ ?_ ?_ gI_at))⟩⟩
  · exact (Fg.i ⟨rfl, Or.inl rfl⟩).trans (Fg.i ⟨rfl, Or.inr rfl⟩)
  · rw [gI_ne (by decide), gI_at]
theorem k_begS {post : St → Prop} (hn : n ≤ 40000) (hqn : n ≤ fN x q) (hq31 : fN x q < 2 ^ 31) (hb : ∀ i, i < n → fA x q i = (T i).toInt8.toInt32 ∧ 0 ≤ T i ∧ T i ≤ 255) (p : ∀ Y, FBg x Y → ScC Y q T n 0 (-1) → post Y) : wp_Scn_begin post 10 q (nI n) x := by
  unfold wp_Scn_begin
  refine nm_e (nm_e (nm_e (nm_e ?_)))
  have eN : fN (setR x 10 0 (some q)) q = fN x q := rfl
  rw [eN, if_neg (by (first | omega | (simp (disch := omega) only [Int32.le_iff_toInt_le, Int32.lt_iff_toInt_lt, z_eq, z_in, nI_toInt, z_cl, z_m1, z_sg, z_255, Int32.reduceToInt] <;> omega) | (simp only [Int32.le_iff_toInt_le, Int32.lt_iff_toInt_lt, z_eq, z_in, z_add, z_sub, z_mul, z_neg, z_nI, z_cl, z_sg, z_255, z_lit, Int32.reduceToInt] <;> omega)))]
  refine p _ ?_ ⟨⟨?_, ?_, hn, hqn, hq31, hb⟩, ?_, ?_, Nat.zero_le _⟩
  · exact (Fg.r ⟨rfl, rfl⟩).trans ((Fg.i (I := fun a _ => a = 10) rfl).trans ((Fg.i (I := fun a _ => a = 10) rfl).trans (Fg.i (I := fun a _ => a = 10) rfl)))
  · show fR (setR x 10 0 (some q)) 10 0 = some q
    exact gR_at
  · rw [gI_ne (by decide), gI_ne (by decide), gI_at]
  · rw [gI_ne (by decide), gI_at]
    rfl
  · exact gI_at
theorem k_schemaV {post : Int32 → St → Prop} (hL : LC x) (h1 : fR x 0 1 = some s) (hs : SnkId s) (hc : fI x s 1 = nI n) (hr : fR x s 0 = some q) (hq : skRow q) (hqn : n ≤ fN x q) (hq31 : fN x q < 2 ^ 31) (hn : n ≤ 40000) (hb : ∀ i, i < n → fA x q i = (T i).toInt8.toInt32 ∧ 0 ≤ T i ∧ T i ≤ 255) (h4 : fR x 0 4 = some sc) (h5 : fR x 0 5 = some sp) (hsp : sp = 12 ∨ sp = 24)
    (pL : 4000 < n → ∀ z, FSv s sp x z → FIn s x z → fI z s 1 = 0 → fI z s 2 = 0 → post 4000 z)
    (pE : n ≤ 4000 → ∀ e z, e ≠ -1 → (∃ c, ∀ d, (runS T n (d + c) [] 0 (-1)).1 = e) → Fg (fun a k => a = 10 ∨ a = sp ∨ a = s ∧ (k = 1 ∨ k = 2)) no2 (fun a k => a = 10 ∧ k = 0) (fun a => rwS sp a) no1 x z → fI z s 1 = 0 → fI z s 2 = 0 → post e z)
    (pO : n ≤ 4000 → ∀ F z, WfS F → F ≠ [] → (∃ c, ∀ d, runS T n (d + c) [] 0 (-1) = (-1, F)) → FSv s sp x z → fI z s 1 = 0 → fI z s 2 = 0 → fR z 0 4 = some sp → fR z 0 5 = some sc → RepC z sp F → RsC z F [] 0 → post (-1) z) : wp_V_schema post 0 x := by
  have hS : SchId sp := by unfold SchId; omega
  have s10 : s ≠ 10 ∧ s ≠ 0 ∧ s ≠ 36 ∧ s ≠ sp := by unfold SnkId at hs; omega
  unfold wp_V_schema
  refine k_useI h1 hc (fun X fX X1 X2 => ?_)
  by_cases c : n ≤ 4000
  rotate_left
  · exact br_f (by show ¬ nI n ≤ nI 4000; (first | omega | (simp (disch := omega) only [Int32.le_iff_toInt_le, Int32.lt_iff_toInt_lt, z_eq, z_in, nI_toInt, z_cl, z_m1, z_sg, z_255, Int32.reduceToInt] <;> omega) | (simp only [Int32.le_iff_toInt_le, Int32.lt_iff_toInt_lt, z_eq, z_in, z_add, z_sub, z_mul, z_neg, z_nI, z_cl, z_sg, z_255, z_lit, Int32.reduceToInt] <;> omega))) (pL (by omega) X (fX.mono (fun _ _ w => Or.inr (Or.inr (Or.inl w))) (fun _ _ w => w) (fun _ _ w => w.elim) (fun _ w => w.elim) (fun _ w => w)) fX X1 X2)
  refine br_t (by show nI n ≤ nI 4000; (first | omega | (simp (disch := omega) only [Int32.le_iff_toInt_le, Int32.lt_iff_toInt_lt, z_eq, z_in, nI_toInt, z_cl, z_m1, z_sg, z_255, Int32.reduceToInt] <;> omega) | (simp only [Int32.le_iff_toInt_le, Int32.lt_iff_toInt_lt, z_eq, z_in, z_add, z_sub, z_mul, z_neg, z_nI, z_cl, z_sg, z_255, z_lit, Int32.reduceToInt] <;> omega))) ⟨s, (f_r fX (fun w => w)).trans h1, q, (f_r fX (fun w => w)).trans hr, ?_⟩
  show wp_Scn_begin _ 10 q (nI n) X
  have XA : fA X q = fA x q := fX.aa (fun w => w)
  refine k_begS hn (by rw [fX.len]; exact hqn) (by rw [fX.len]; exact hq31) (by rw [XA]; exact hb) (fun Y fY hS0 => ⟨sp, (f_r fY (by omega)).trans ((f_r fX (fun w => w)).trans h5), ?_⟩)
  show wp_Sch_readText _ sp 10 Y
  have fXY : Fg (fun a k => a = 10 ∨ a = sp ∨ a = s ∧ (k = 1 ∨ k = 2)) no2 (fun a k => a = 10 ∧ k = 0) (fun a => rwS sp a) no1 x Y := (fX.mono (fun _ _ w => Or.inr (Or.inr w)) (fun _ _ w => w) (fun _ _ w => w.elim) (fun _ w => w.elim) (fun _ w => w)).trans (fY.mono (fun _ _ w => Or.inl w) (fun _ _ w => w) (fun _ _ w => w) (fun _ w => w.elim) (fun _ w => w))
  have LY : LC Y := fun r hr => by rw [fXY.len]; exact hL r hr
  have Y1 : fI Y s 1 = 0 := (fY.ii (fun w => s10.1 w)).trans X1
  have Y2 : fI Y s 2 = 0 := (fY.ii (fun w => s10.1 w)).trans X2
  have qn : ∀ k, 2 ≤ k → k ≤ 12 → q ≠ stC sp k := by
    intro k k1 k2
    have e : ∀ k : Fin 13, stC sp k.val < 60 ∧ ¬ skRow (stC sp k.val) ∨ k.val < 2 := by
      rcases hsp with rfl | rfl <;> (unfold skRow; decide)
    rcases e ⟨k, by omega⟩ with e | e
    · exact fun z => e.2 (by rw [← z]; exact hq)
    · exact absurd e (by show ¬ k < 2; omega)
  refine d_readText hS LY hS0 qn (fun e z en fz ex => ?_) (fun F z fz Rz hw hne ex => ?_)
  · have fz' : Fg (fun a k => a = 10 ∨ a = sp ∨ a = s ∧ (k = 1 ∨ k = 2)) no2 (fun a k => a = 10 ∧ k = 0) (fun a => rwS sp a) no1 Y z := fz.g.mono (fun _ _ w => w.elim Or.inl (fun w => Or.inr (Or.inl w))) (fun _ _ w => w) (fun _ _ w => w.elim) (fun _ w => w) (fun _ w => w)
    refine br_f en (pE c e z en ex (fXY.trans fz') ?_ ?_)
    · exact (fz.1 s 1 (fun w => w.elim s10.1 s10.2.2.2)).trans Y1
    · exact (fz.1 s 2 (fun w => w.elim s10.1 s10.2.2.2)).trans Y2
  · have fz' : Fg (fun a k => a = 10 ∨ a = sp ∨ a = s ∧ (k = 1 ∨ k = 2)) no2 (fun a k => a = 10 ∧ k = 0) (fun a => rwS sp a) no1 Y z := fz.g.mono (fun _ _ w => w.elim Or.inl (fun w => Or.inr (Or.inl w))) (fun _ _ w => w) (fun _ _ w => w.elim) (fun _ w => w) (fun _ w => w)
    have fxz := fXY.trans fz'
    have z4 : fR z 0 4 = some sc := (f_r fxz (by omega)).trans h4
    have z5 : fR z 0 5 = some sp := (f_r fxz (by omega)).trans h5
    refine br_t rfl ⟨sc, z4, sp, z5, nm_e (nm_e ?_)⟩
    have fw : FSv s sp x (setR (setR z 0 4 (some sp)) 0 5 (some sc)) := by
      have g1 : FSv s sp x z := fxz.mono (fun _ _ w => by omega) (fun _ _ w => w) (fun _ _ w => Or.inl w) (fun _ w => Or.inl w) (fun _ w => w)
      exact g1.trans ((Fg.r (Or.inr ⟨rfl, Or.inl rfl⟩)).trans (Fg.r (Or.inr ⟨rfl, Or.inr rfl⟩)))
    have Lw : LC (setR (setR z 0 4 (some sp)) 0 5 (some sc)) := fun r hr => by rw [fw.len]; exact hL r hr
    refine d_forgetR (F := F) Lw (fun w fw2 rw2 => ?_)
    have fxw : FSv s sp x w := fw.trans (fw2.mono (fun _ _ w => Or.inr (Or.inr (Or.inr w))) (fun _ _ w => w) (fun _ _ w => w.elim) (fun _ w => Or.inr w) (fun _ w => w))
    refine pO c F w hw hne ex fxw ?_ ?_ ?_ ?_ ?_ rw2
    · refine (fw2.ii (by omega)).trans ?_
      show fI z s 1 = 0
      exact (fz.1 s 1 (fun w => w.elim s10.1 s10.2.2.2)).trans Y1
    · refine (fw2.ii (by omega)).trans ?_
      show fI z s 2 = 0
      exact (fz.1 s 2 (fun w => w.elim s10.1 s10.2.2.2)).trans Y2
    · refine (f_r fw2 (fun w => w)).trans ((gR_ne (by omega)).trans gR_at)
    · exact (f_r fw2 (fun w => w)).trans gR_at
    · refine Rz.cg2 (fun k hk => (fw2.ii (by omega)).trans rfl) (fun k k1 k2 => ?_)
      have e : ∀ k : Fin 13, (stC sp k.val ≠ 41 ∧ stC sp k.val ≠ 43 ∧ stC sp k.val ≠ 44) := by
        rcases hsp with rfl | rfl <;> decide
      have := e ⟨k, by omega⟩
      exact fw2.aa (by have := this; dsimp only at this; omega)
theorem k_recordV {post : Int32 → St → Prop} {E : List SEn} {cnt : Nat} {L0 : List SNd} (hL : LC x) (h1 : fR x 0 1 = some s) (hs : SnkId s) (hs52 : s = 1 ∨ s = 4 ∨ s = 7 ∨ s = 46) (hc : fI x s 1 = nI n) (hr : fR x s 0 = some q) (hq : skRow q) (hqn : n ≤ fN x q) (hq31 : fN x q < 2 ^ 31) (hn : n ≤ 40000) (hb : ∀ i, i < n → fA x q i = (T i).toInt8.toInt32 ∧ 0 ≤ T i ∧ T i ≤ 255) (h4 : fR x 0 4 = some sc) (hsc : sc = 12 ∨ sc = 24) (hw : WfS F) (hF0 : fI x sc 0 = nI F.length) (hR : F ≠ [] → RepC x sc F) (hRs : RsC x F E cnt)
    (pN : F = [] → ∀ z, FRv s x z → fI z s 1 = 0 → fI z s 2 = 0 → RsC z F E cnt → post (-2) z)
    (pL : F ≠ [] → 4000 < n → ∀ z, FRv s x z → fI z s 1 = 0 → fI z s 2 = 0 → RsC z F E cnt → post 4000 z)
    (pE : F ≠ [] → n ≤ 4000 → (pGrp T n F 18 0 (-1) 0 L0).1 ≠ -1 → ∀ z, FRv s x z → fI z s 1 = 0 → fI z s 2 = 0 → RsC z F E cnt → post (pGrp T n F 18 0 (-1) 0 L0).1 z)
    (pM : F ≠ [] → n ≤ 4000 → (pGrp T n F 18 0 (-1) 0 L0).1 = -1 → skip T n (pGrp T n F 18 0 (-1) 0 L0).2.1 < n → ∀ z, FRv s x z → fI z s 1 = 0 → fI z s 2 = 0 → RsC z F E cnt → post (nI (skip T n (pGrp T n F 18 0 (-1) 0 L0).2.1)) z)
    (pF : F ≠ [] → n ≤ 4000 → (pGrp T n F 18 0 (-1) 0 L0).1 = -1 → ¬ skip T n (pGrp T n F 18 0 (-1) 0 L0).2.1 < n → (2000 ≤ cnt ∨ 10000 < (E ++ eGrp T n F 18 0 (-1) 0 L0 0).length ∨ 60000 < tx (E ++ eGrp T n F 18 0 (-1) 0 L0 0)) → ∀ z, FRv s x z → fI z s 1 = 0 → fI z s 2 = 0 → RsC z F E cnt → post (-2) z)
    (pO : F ≠ [] → n ≤ 4000 → (pGrp T n F 18 0 (-1) 0 L0).1 = -1 → ¬ skip T n (pGrp T n F 18 0 (-1) 0 L0).2.1 < n → cnt < 2000 → (E ++ eGrp T n F 18 0 (-1) 0 L0 0).length ≤ 10000 → tx (E ++ eGrp T n F 18 0 (-1) 0 L0 0) ≤ 60000 → ∀ z, FRv s x z → fI z s 1 = 0 → fI z s 2 = 0 → RsC z F (E ++ eGrp T n F 18 0 (-1) 0 L0 0) (cnt + 1) → post (-1) z) : wp_V_record post 0 x := by
  have hS : SchId sc := by unfold SchId; omega
  have hF128 := hw.1
  unfold wp_V_record
  refine k_useI h1 hc (fun X fX X1 X2 => ?_)
  have fRX : FRv s x X := fX.mono (fun _ _ w => Or.inr (Or.inr w)) (fun _ _ w => w.elim) (fun _ _ w => w.elim) (fun _ w => w.elim) (fun _ w => w.elim)
  have Xall : X.2 = x.2 := by
    obtain ⟨-, a2, a3, a4, a5, a6⟩ := fX
    refine Prod.ext ?_ (Prod.ext ?_ (Prod.ext ?_ (Prod.ext ?_ a6)))
    · exact funext (fun o => funext (fun k => a2 o k (fun w => w)))
    · exact funext (fun o => funext (fun k => a3 o k (fun w => w)))
    · exact funext (fun o => a4 o (fun w => w))
    · exact funext (fun o => a5 o (fun w => w))
  have RX : RsC X F E cnt := by
    obtain ⟨r1, r2, r3, r4, r5, r6, r7, r8⟩ := hRs
    have XA : ∀ a, fA X a = fA x a := fun a => by show X.2.2.2.1 a = _; rw [Xall]
    have XL : ∀ a, fL X a = fL x a := fun a => by show X.2.2.2.2.1 a = _; rw [Xall]
    refine ⟨(fX.ii (by omega)).trans r1, (fX.ii (by omega)).trans r2, (fX.ii (by omega)).trans r3, r4, r5, r6, fun i hi => ?_, ?_⟩
    · have := r7 i hi
      unfold EnC VlC at *
      rw [XA, XA, XA, XA, XL]
      exact this
    · unfold KpC at *
      rw [XA, XA, XA]
      exact r8
  refine ⟨sc, (f_r fX (fun w => w)).trans h4, ?_⟩
  rw [show fI X sc 0 = nI F.length from (fX.ii (by omega)).trans hF0]
  by_cases cF : F = []
  · exact bn_t (by rw [cF]; rfl) (pN cF X fRX X1 X2 RX)
  have lF : 0 < F.length := List.length_pos_iff.mpr cF
  refine bn_f (fun z => by have := nI_inj (b := 0) (by omega) (by omega) z; omega) ?_
  by_cases c : n ≤ 4000
  rotate_left
  · exact br_f (by show ¬ nI n ≤ nI 4000; (first | omega | (simp (disch := omega) only [Int32.le_iff_toInt_le, Int32.lt_iff_toInt_lt, z_eq, z_in, nI_toInt, z_cl, z_m1, z_sg, z_255, Int32.reduceToInt] <;> omega) | (simp only [Int32.le_iff_toInt_le, Int32.lt_iff_toInt_lt, z_eq, z_in, z_add, z_sub, z_mul, z_neg, z_nI, z_cl, z_sg, z_255, z_lit, Int32.reduceToInt] <;> omega))) (pL cF (by omega) X fRX X1 X2 RX)
  refine br_t (by show nI n ≤ nI 4000; (first | omega | (simp (disch := omega) only [Int32.le_iff_toInt_le, Int32.lt_iff_toInt_lt, z_eq, z_in, nI_toInt, z_cl, z_m1, z_sg, z_255, Int32.reduceToInt] <;> omega) | (simp only [Int32.le_iff_toInt_le, Int32.lt_iff_toInt_lt, z_eq, z_in, z_add, z_sub, z_mul, z_neg, z_nI, z_cl, z_sg, z_255, z_lit, Int32.reduceToInt] <;> omega))) ⟨s, (f_r fX (fun w => w)).trans h1, q, (f_r fX (fun w => w)).trans hr, ?_⟩
  show wp_Scn_begin _ 10 q (nI n) X
  have XA : fA X q = fA x q := fX.aa (fun w => w)
  refine k_begS hn (by rw [fX.len]; exact hqn) (by rw [fX.len]; exact hq31) (by rw [XA]; exact hb) (fun Y fY hS0 => ⟨sc, (f_r fY (by omega)).trans ((f_r fX (fun w => w)).trans h4), ?_⟩)
  show wp_Rec_readText _ 36 10 sc Y
  have fRY : FRv s x Y := fRX.trans (fY.mono (fun _ _ w => Or.inl w) (fun _ _ w => w.elim) (fun _ _ w => Or.inl w.1) (fun _ w => w.elim) (fun _ w => w.elim))
  have LY : LC Y := fun r hr => by rw [fRY.len]; exact hL r hr
  have Y1 : fI Y s 1 = 0 := (fY.ii (by omega)).trans X1
  have Y2 : fI Y s 2 = 0 := (fY.ii (by omega)).trans X2
  have RY : RsC Y F E cnt := by
    obtain ⟨r1, r2, r3, r4, r5, r6, r7, r8⟩ := RX
    have YA : ∀ a, fA Y a = fA X a := fun a => fY.aa (fun w => w)
    have YL : ∀ a, fL Y a = fL X a := fun a => fY.ll (fun w => w)
    refine ⟨(fY.ii (by omega)).trans r1, (fY.ii (by omega)).trans r2, (fY.ii (by omega)).trans r3, r4, r5, r6, fun i hi => ?_, ?_⟩
    · have := r7 i hi
      unfold EnC VlC at *
      rw [YA, YA, YA, YA, YL]
      exact this
    · unfold KpC at *
      rw [YA, YA, YA]
      exact r8
  have RpY : RepC Y sc F := (hR cF).cg2 (fun k hk => (fY.ii (by omega)).trans (fX.ii (by omega))) (fun k k1 k2 => (fY.aa (fun w => w)).trans (fX.aa (fun w => w)))
  have fin : ∀ {z}, FrRc Y z → FRv s x z ∧ fI z s 1 = 0 ∧ fI z s 2 = 0 := fun {z} fz => ⟨fRY.trans (fz.mono (fun _ _ w => w.elim Or.inl (fun w => Or.inr (Or.inl w))) (fun _ _ w => w) (fun _ _ w => w) (fun _ w => w) (fun _ w => w)), (fz.ii (by omega)).trans Y1, (fz.ii (by omega)).trans Y2⟩
  refine d_recText (L0 := L0) hS hw hq c LY RpY hS0 RY (fun e z fz rz => ?_) (fun e e2 z fz rz => ?_) (fun e e2 e3 z fz rz => ?_) (fun e e2 e3 e4 e5 z fz rz => ?_)
  · obtain ⟨a1, a2, a3⟩ := fin fz
    exact pE cF c e z a1 a2 a3 rz
  · obtain ⟨a1, a2, a3⟩ := fin fz
    exact pM cF c e e2 z a1 a2 a3 rz
  · obtain ⟨a1, a2, a3⟩ := fin fz
    exact pF cF c e e2 e3 z a1 a2 a3 rz
  · obtain ⟨a1, a2, a3⟩ := fin fz
    exact pO cF c e e2 e3 e4 e5 z a1 a2 a3 rz
end
