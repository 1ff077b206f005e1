/-! conditions of a query, model: the pile -/
abbrev Pil : Type := List (Int32 × Nat)
def opn : Pil → Nat
  | [] => 0
  | p :: P => (if p.1 = 0 ∨ p.1 = 1 then 1 else 0) + opn P
def PlR (a c : Nat → Int32) : Pil → Prop
  | [] => True
  | p :: P => a P.length = p.1 ∧ c P.length = nI p.2 ∧ PlR a c P
def PlM (y : St) (P : Pil) : Prop := fI y 0 139 = nI P.length ∧ fI y 0 140 = nI (opn P) ∧ PlR (fA y 94) (fA y 95) P
theorem PlR.upd {a c : Nat → Int32} {j : Nat} {v w : Int32} : ∀ {P : Pil}, P.length ≤ j → PlR a c P → PlR (upd a j v) (upd c j w) P := by
  intro P
  induction P with
  | nil => intro _ _; exact trivial
  | cons p P ih =>
    intro hj h
    have hj : P.length + 1 ≤ j := hj
    obtain ⟨h1, h2, h3⟩ := h
    exact ⟨by rw [upd_ne (by omega)]; exact h1, by rw [upd_ne (by omega)]; exact h2, ih (by omega) h3⟩
theorem PlM.fq {s : Nat} {y z : St} {P : Pil} (h : PlM y P) (f : FqM False s y z) : PlM z P := by
  obtain ⟨h1, h2, h3⟩ := h
  have r94 : fA z 94 = fA y 94 := funext (fun i => f.2.2.2.1 94 i (fun q => by simp [qA] at q))
  have r95 : fA z 95 = fA y 95 := funext (fun i => f.2.2.2.1 95 i (fun q => by simp [qA] at q))
  refine ⟨?_, ?_, by rw [r94, r95]; exact h3⟩
  · rw [← h1]; exact f.1 0 139 (fun q => by simp [qK] at q)
  · rw [← h2]; exact f.1 0 140 (fun q => by simp [qK] at q)
section
variable {T : Nat → Int32} {n s : Nat} {F : List SFd} {x y : St} {Q : Qy} {r : QR} {P : Pil}
theorem RqM.up {z : St} (f : FqM True s x y) (h : RqM False n s y r z) : RqM True n s x r z := by
  unfold RqM at *
  by_cases c : r.1 = -1
  · rw [if_pos c] at *
    exact ⟨f.trans (h.1.up False.elim), h.2⟩
  · rw [if_neg c] at *
    exact ⟨f.trans (h.1.up False.elim), h.2⟩
def CdM (n s : Nat) (x y : St) (k : Nat) (Q : Qy) (P : Pil) : Prop := GdM True n s x y k Q ∧ PlM y P
theorem CdM.self {k : Nat} (h : CdM n s x y k Q P) : GdM False n s y y k Q := ⟨FqM.refl _ _ _, h.1.2⟩
/-- a fault, or a step well done, with the pile -/
def RpM (n s : Nat) (x : St) (r : QR) (P : Pil) (y : St) : Prop := RqM True n s x r y ∧ PlM y P
theorem CdM.rc {k : Nat} (h : CdM n s x y k Q P) : RpM n s x (-1, k, Q) P y := ⟨RqM.good h.1, h.2⟩
theorem RpM.gd (h : RpM n s x r P y) (c : r.1 = -1) : CdM n s x y r.2.1 r.2.2 P := ⟨h.1.gd c, h.2⟩
theorem CdM.up {k : Nat} {z : St} (h : CdM n s x y k Q P) (hz : RqM False n s y r z) : RpM n s x r P z := ⟨hz.up h.1.1, h.2.fq hz.fq⟩
theorem RpM.up {r' : QR} {z : St} (h : RpM n s x r P y) (hz : RqM False n s y r' z) : RpM n s x r' P z := ⟨hz.up h.1.fq, h.2.fq hz.fq⟩
theorem RpM.self (h : RpM n s x r P y) : RqM False n s y r y := by
  unfold RpM RqM at *
  by_cases c : r.1 = -1
  · rw [if_pos c] at *
    exact ⟨FqM.refl _ _ _, h.1.2⟩
  · rw [if_neg c] at *
    exact ⟨FqM.refl _ _ _, h.1.2⟩
theorem s_qPush (hB : BsM x T n F s) {post : St → Prop} {w : Int32} {q : Nat} (hP : P.length < 100) (h : RqM True n s x r y) (h139 : fI y 0 139 = nI P.length) (hR : PlR (fA y 94) (fA y 95) P)
    (p : ∀ z, RqM True n s x r z → fI z 0 139 = nI (P.length + 1) → fI z 0 140 = fI y 0 140 → PlR (fA z 94) (fA z 95) ((w, q) :: P) → fI z 0 16 = fI y 0 16 → post z) : wp_Mod_push post w (nI q) y := by
  obtain ⟨-, -, t3, -⟩ := hB.fq h.fq
  have ii : vp_in (nI P.length) 120 := vp_in_nI (by omega) (by decide)
  have cl : (nI P.length).toNatClampNeg = P.length := nI_clamp (by omega)
  unfold wp_Mod_push
  rw [h139, show fN y 94 = 120 from t3 94]
  refine ⟨ii, nm_e ?_⟩
  show vp_in (fI y 0 139) (fN y 95) ∧ _
  rw [h139, show fN y 95 = 120 from t3 95]
  refine ⟨ii, nm_r (e' := setA (setA y 94 (nI P.length) w) 95 (nI P.length) (nI q)) (by show setA _ 95 (fI y 0 139) _ = _; rw [h139]) (nm_r (e' := setI (setA (setA y 94 (nI P.length) w) 95 (nI P.length) (nI q)) 0 139 (nI (P.length + 1))) (by show setI _ 0 139 (fI y 0 139 + 1) = _; rw [h139, nI_1]) (p _ ?_ rfl rfl ⟨?_, ?_, ?_⟩ rfl))⟩
  · have f : FqM True s y (setI (setA (setA y 94 (nI P.length) w) 95 (nI P.length) (nI q)) 0 139 (nI (P.length + 1))) := ((FqM.a (by omega) (Or.inr (Or.inl ⟨trivial, Or.inl rfl⟩))).trans (FqM.a (by omega) (Or.inr (Or.inl ⟨trivial, Or.inr rfl⟩)))).trans (FqM.i (Or.inr (Or.inr (Or.inr ⟨trivial, Or.inl rfl⟩))))
    unfold RqM at *
    by_cases c : r.1 = -1
    · rw [if_pos c] at *
      obtain ⟨a1, a2, a3, a4, a5, a6, a7, a8⟩ := h
      exact ⟨a1.trans f, a2, a3, a4, a5, a6, a7, a8⟩
    · rw [if_neg c] at *
      exact ⟨h.1.trans f, h.2⟩
  · show upd (fA y 94) (nI P.length).toNatClampNeg w P.length = w
    rw [cl, upd_at]
  · show upd (fA y 95) (nI P.length).toNatClampNeg (nI q) P.length = nI q
    rw [cl, upd_at]
  · show PlR (upd (fA y 94) (nI P.length).toNatClampNeg w) (upd (fA y 95) (nI P.length).toNatClampNeg (nI q)) P
    rw [cl]
    exact hR.upd (Nat.le_refl _)
/-- nothing is joined -/
theorem s_jNo (hB : BsM x T n F s) {post : St → Prop} {w : Int32} (hl : P.length ≤ 100) (h : RpM n s x r P y) (hw : ¬ r.1 = -1 ∨ ∀ p P', P = p :: P' → p.1 ≠ w) (p : post y) (m : Nat) : wl_Mod_joins_0 post (m + 1) w y := by
  obtain ⟨-, -, t3, -⟩ := hB.fq h.1.fq
  show j_Mod_joins_0 post _ w y
  unfold j_Mod_joins_0
  rw [h.2.1]
  cases P with
  | nil => exact br_t (by decide) p
  | cons q P' =>
    have hl : P'.length + 1 ≤ 100 := hl
    refine br_f (by show ¬ nI (P'.length + 1) ≤ 0; (first | omega | (simp (disch := omega) only [Int32.le_iff_toInt_le, Int32.lt_iff_toInt_lt, z_eq, z_in, nI_toInt, z_cl, z_m1, z_sg, z_255, Int32.reduceToInt] <;> omega) | (simp only [Int32.le_iff_toInt_le, Int32.lt_iff_toInt_lt, z_eq, z_in, z_add, z_sub, z_mul, z_neg, z_nI, z_cl, z_sg, z_255, z_lit, Int32.reduceToInt] <;> omega))) ?_
    have e : nI (q :: P').length - 1 = nI P'.length := by show nI (P'.length + 1) - nI 1 = _; rw [nI_sub (by omega), Nat.add_sub_cancel]
    rw [e, show fN y 94 = 120 from t3 94, rA_nI (by omega)]
    refine ⟨vp_in_nI (by omega) (by decide), ?_⟩
    by_cases c : fA y 94 P'.length = w
    · refine bn_t c ?_
      rcases hw with hw | hw
      · exact bn_f (by rw [h.1.e]; exact hw) p
      · exact absurd ((h.2.2.2.1).symm.trans c) (hw q P' rfl)
    · exact bn_f c p
/-- the pile's top is joined -/
theorem s_jYes (hB : BsM x T n F s) {post : St → Prop} {w : Int32} {k q : Nat} (hq : q ≤ n) (hl : P.length < 100) (h : CdM n s x y k Q ((w, q) :: P)) (hw : w = 1 ∨ w = 2 ∨ w = 3)
    (pb : ¬ (qAdd q (w + 4, -1, -1, -1, 0) (-1, k, Q)).1 = -1 → ∀ z, RpM n s x (qAdd q (w + 4, -1, -1, -1, 0) (-1, k, Q)) P z → post z)
    (m : Nat) (pg : (qAdd q (w + 4, -1, -1, -1, 0) (-1, k, Q)).1 = -1 → ∀ z, RpM n s x (qAdd q (w + 4, -1, -1, -1, 0) (-1, k, Q)) P z → wl_Mod_joins_0 post (m + 1) w z) : wl_Mod_joins_0 post (m + 2) w y := by
  obtain ⟨-, t2, t3, -⟩ := hB.fq h.1.1
  obtain ⟨h1, h139, h140, hR⟩ := h
  have go : (∀ z, RpM n s x (qAdd q (w + 4, -1, -1, -1, 0) (-1, k, Q)) P z → wl_Mod_joins_0 post (m + 1) w z) → wl_Mod_joins_0 post (m + 2) w y := by
    intro pm
    show j_Mod_joins_0 post (wl_Mod_joins_0 post (m + 1)) w y
    unfold j_Mod_joins_0
    have l1 : ((w, q) :: P).length = P.length + 1 := rfl
    have e : nI (P.length + 1) - 1 = nI P.length := by show nI (P.length + 1) - nI 1 = _; rw [nI_sub (by omega), Nat.add_sub_cancel]
    rw [h139, l1, e, show fN y 94 = 120 from t3 94, rA_nI (by omega)]
    refine br_f (by (first | omega | (simp (disch := omega) only [Int32.le_iff_toInt_le, Int32.lt_iff_toInt_lt, z_eq, z_in, nI_toInt, z_cl, z_m1, z_sg, z_255, Int32.reduceToInt] <;> omega) | (simp only [Int32.le_iff_toInt_le, Int32.lt_iff_toInt_lt, z_eq, z_in, z_add, z_sub, z_mul, z_neg, z_nI, z_cl, z_sg, z_255, z_lit, Int32.reduceToInt] <;> omega))) ⟨vp_in_nI (by omega) (by decide), bn_t hR.1 (bn_t h1.2.1 (nm_e ?_))⟩
    have m55 : ∀ s0, nI (opn ((w, q) :: P)) - s0 = nI (opn P) → j_Mod_joins_55 post (wl_Mod_joins_0 post (m + 1)) w s0 (fI (setI y 0 139 (nI P.length)) 0 140) (setI y 0 139 (nI P.length)) := by
      intro s0 es
      unfold j_Mod_joins_55
      have e140 : fI (setI y 0 139 (nI P.length)) 0 140 = nI (opn ((w, q) :: P)) := h140
      rw [e140, es]
      refine nm_e ?_
      show vp_in (nI P.length) (fN y 95) ∧ wp_Mod_addStep _ (rA y 95 (nI P.length)) _ _ _ _ _ _
      rw [show fN y 95 = 120 from t3 95, rA_nI (by omega), hR.2.1]
      refine ⟨vp_in_nI (by omega) (by decide), ?_⟩
      have f : FqM True s y (setI (setI y 0 139 (nI P.length)) 0 140 (nI (opn P))) := (FqM.i (Or.inr (Or.inr (Or.inr ⟨trivial, Or.inl rfl⟩)))).trans (FqM.i (Or.inr (Or.inr (Or.inr ⟨trivial, Or.inr rfl⟩))))
      have c2 : CdM n s x (setI (setI y 0 139 (nI P.length)) 0 140 (nI (opn P))) k Q P := ⟨⟨h1.1.trans f, h1.2⟩, rfl, rfl, hR.2.2⟩
      have hB2 := hB.fq c2.1.1
      exact s_qAdd hB2 (l := (w + 4, -1, -1, -1, 0)) (by omega) (RqM.good c2.self) (fun z hz => pm z (c2.up hz))
    rcases hw with hw | hw | hw
    · refine bn_t hw (m55 1 ?_)
      show nI ((if w = 0 ∨ w = 1 then 1 else 0) + opn P) - nI 1 = _
      rw [if_pos (Or.inr hw), nI_sub (by omega), Nat.add_sub_cancel_left]
    · refine bn_f (by rw [hw]; decide) (m55 0 ?_)
      show nI ((if w = 0 ∨ w = 1 then 1 else 0) + opn P) - nI 0 = _
      rw [if_neg (by rw [hw]; decide), nI_sub (by omega), Nat.zero_add, Nat.sub_zero]
    · refine bn_f (by rw [hw]; decide) (m55 0 ?_)
      show nI ((if w = 0 ∨ w = 1 then 1 else 0) + opn P) - nI 0 = _
      rw [if_neg (by rw [hw]; decide), nI_sub (by omega), Nat.zero_add, Nat.sub_zero]
  by_cases c : (qAdd q (w + 4, -1, -1, -1, 0) (-1, k, Q)).1 = -1
  · exact go (pg c)
  · refine go (fun z hz => ?_)
    have pbz := pb c z hz
    obtain ⟨-, -, u3, -⟩ := hB.fq hz.1.fq
    show j_Mod_joins_0 post _ w z
    unfold j_Mod_joins_0
    rw [hz.2.1]
    generalize qAdd q (w + 4, -1, -1, -1, 0) (-1, k, Q) = r2 at *
    cases P with
    | nil => exact br_t (by decide) pbz
    | cons q2 P' =>
      have hl : P'.length + 1 < 100 := hl
      refine br_f (by show ¬ nI (P'.length + 1) ≤ 0; (first | omega | (simp (disch := omega) only [Int32.le_iff_toInt_le, Int32.lt_iff_toInt_lt, z_eq, z_in, nI_toInt, z_cl, z_m1, z_sg, z_255, Int32.reduceToInt] <;> omega) | (simp only [Int32.le_iff_toInt_le, Int32.lt_iff_toInt_lt, z_eq, z_in, z_add, z_sub, z_mul, z_neg, z_nI, z_cl, z_sg, z_255, z_lit, Int32.reduceToInt] <;> omega))) ?_
      have e : nI (q2 :: P').length - 1 = nI P'.length := by show nI (P'.length + 1) - nI 1 = _; rw [nI_sub (by omega), Nat.add_sub_cancel]
      rw [e, show fN z 94 = 120 from u3 94]
      refine ⟨vp_in_nI (by omega) (by decide), ?_⟩
      by_cases d : rA z 94 (nI P'.length) = w
      · exact bn_t d (bn_f (by rw [hz.1.e]; exact c) pbz)
      · exact bn_f d pbz
end
