/-! a query is read, class -/
abbrev FqyC (o : Nat) (x y : St) : Prop := Fg (fun a _ => a = 10 ∨ a = o) (fun a _ => a = 10) (fun a k => a = o ∧ (k = 17 ∨ k = 18)) (fun a => o + 1 ≤ a ∧ a ≤ o + 10) (fun a => a = o + 9) x y
theorem FqC.fr {b : Prop} {o : Nat} {x y : St} (f : FqC b o x y) : FqyC o x y :=
  f.mono (fun a k w => w.elim Or.inl (fun w => Or.inr w.1)) (fun _ _ w => w) (fun _ _ w => w.elim) (fun a w => w.elim (fun w => ⟨by omega, by omega⟩) (fun w => ⟨w.2.1, by have := w.2.2; omega⟩)) (fun _ w => w)
section
variable {q n o : Nat} {T : Nat → Int32} {F : List SFd} {x : St}
theorem k_readQ {post : Int32 → St → Prop} (hL : LC x) (hw : WfS F) (hR : RepC x 70 F) (h7 : QId o) (hq : q < 106 ∨ 128 ≤ q) (hn : n ≤ 2000) (hS : ScC x q T n 0 (-1))
    (p0 : ¬ (qry T n F).1 = -1 → ∀ z, FqyC o x z → fI z o 0 = 0 → post (qry T n F).1 z)
    (p1 : (qry T n F).1 = -1 → ∀ z, FqyC o x z → SqC F z o (qry T n F).2.2 → (fI z o 7 = if cll (qry T n F).2.2 = true then 1 else 0) → fI z o 0 = 0 → post (-1) z) : wp_Qry_readText post o 10 70 x := by
  have ho : o ≠ 10 := by rcases h7 with e | e <;> omega
  have ho7 : o ≠ 70 := by rcases h7 with e | e <;> omega
  unfold wp_Qry_readText
  refine nm_e (nm_e (nm_e (nm_e (nm_e (nm_e (nm_e (nm_e (nm_e ?_))))))))
  generalize hX : setI (setI (setI (setI (setI (setI (setI (setR (setR x o 17 (some 10)) o 18 (some 70)) o 0 0) o 1 0) o 5 0) o 7 0) o 8 0) o 13 0) o 15 0 = X
  have X17 : fR X o 17 = some 10 := by
    rw [← hX]
    show (if o = o ∧ 17 = 18 then _ else if o = o ∧ 17 = 17 then _ else _) = _
    rw [if_neg (fun w => absurd w.2 (by decide)), if_pos ⟨rfl, rfl⟩]
  have X18 : fR X o 18 = some 70 := by
    rw [← hX]
    show (if o = o ∧ 18 = 18 then _ else _) = _
    rw [if_pos ⟨rfl, rfl⟩]
  have XRn : ∀ a k, ¬ (a = o ∧ (k = 17 ∨ k = 18)) → fR X a k = fR x a k := by
    intro a k c
    rw [← hX]
    show (if a = o ∧ k = 18 then _ else if a = o ∧ k = 17 then _ else _) = _
    rw [if_neg (fun w => c ⟨w.1, Or.inr w.2⟩), if_neg (fun w => c ⟨w.1, Or.inl w.2⟩)]
  have X0 : fI X o 0 = 0 := by
    rw [← hX, gI_ne (by decide), gI_ne (by decide), gI_ne (by decide), gI_ne (by decide), gI_ne (by decide), gI_ne (by decide), gI_at]
  have X1 : fI X o 1 = 0 := by
    rw [← hX, gI_ne (by decide), gI_ne (by decide), gI_ne (by decide), gI_ne (by decide), gI_ne (by decide), gI_at]
  have X5 : fI X o 5 = 0 := by
    rw [← hX, gI_ne (by decide), gI_ne (by decide), gI_ne (by decide), gI_ne (by decide), gI_at]
  have X7 : fI X o 7 = 0 := by
    rw [← hX, gI_ne (by decide), gI_ne (by decide), gI_ne (by decide), gI_at]
  have X8 : fI X o 8 = 0 := by
    rw [← hX, gI_ne (by decide), gI_ne (by decide), gI_at]
  have X13 : fI X o 13 = 0 := by
    rw [← hX, gI_ne (by decide), gI_at]
  have X15 : fI X o 15 = 0 := by
    rw [← hX, gI_at]
  have XI : ∀ a k, a ≠ o → fI X a k = fI x a k := fun a k c => by
    rw [← hX, gI_no c, gI_no c, gI_no c, gI_no c, gI_no c, gI_no c, gI_no c]
    rfl
  have X2 : X.2.1 = x.2.1 ∧ X.2.2.2 = x.2.2.2 := by rw [← hX]; exact ⟨rfl, rfl⟩
  clear hX
  have fX : FqyC o x X := ⟨fun a k c => XI a k (fun w => c (Or.inr w)), fun a k _ => by rw [X2.1], fun a k c => XRn a k c, fun a _ => by rw [X2.2], fun a _ => by rw [X2.2], by rw [X2.2]⟩
  have XA : ∀ a, fA X a = fA x a := fun a => by show X.2.2.2.1 a = _; rw [X2.2]
  have XN : ∀ a, fN X a = fN x a := fun a => by show X.2.2.2.2.2 a = _; rw [X2.2]
  have hB : BsC X q n F o := by
    refine ⟨hn, fun r hr => (XN r).trans (hL r hr), hw, ?_, X17, X18, h7, hq⟩
    unfold RepC at *
    rw [XI 70 0 (fun e => ho7 e.symm), XI 70 1 (fun e => ho7 e.symm), XA, XA, XA, XA, XA, XA, XA, XA, XA, XA, XA]
    exact hR
  have sX : ScC X q T n 0 (-1) := by
    obtain ⟨⟨h1, h2, h3, h4, h5, h6⟩, h8, h9, h10⟩ := hS
    refine ⟨⟨(XRn 10 0 (fun w => ho w.1.symm)).trans h1, (XI 10 1 (fun e => ho e.symm)).trans h2, h3, by rw [XN]; exact h4, by rw [XN]; exact h5, by rw [XA]; exact h6⟩, (XI 10 2 (fun e => ho e.symm)).trans h8, (XI 10 3 (fun e => ho e.symm)).trans h9, h10⟩
  have G : GdC True q T n F o X X 0 ([], [], [], []) := by
    refine ⟨Fg.refl X, sX, ⟨⟨X1, by decide, fun i hi => absurd hi (Nat.not_lt_zero _)⟩, ⟨X5, by decide, fun i hi => absurd hi (Nat.not_lt_zero _)⟩, ⟨X8, by decide, fun i hi => absurd hi (Nat.not_lt_zero _)⟩, ⟨X13, by decide, X15, fun i hi => absurd hi (Nat.not_lt_zero _), fun i hi => absurd hi (Nat.not_lt_zero _)⟩⟩, Nat.le_refl _⟩
  -- the end
  have fin : ∀ z, OutQ q T n F o X (qry T n F) z → post (qry T n F).1 z := by
    intro z hz
    have z0 : fI z o 0 = 0 := (hz.1.fq.1 o 0 (fun w => by
      rcases w with w | ⟨-, w | w | w | w | ⟨-, w⟩⟩
      · exact ho w
      · omega
      · omega
      · omega
      · omega
      · omega)).trans X0
    by_cases c : (qry T n F).1 = -1
    · have g := hz.1.gd c
      rw [c]
      exact p1 c z (fX.trans g.1.fr) g.2.2.1 (hz.2 c) z0
    · exact p0 c z (fX.trans hz.1.fq.fr) z0
  rw [qry_eq] at fin
  refine ⟨10, X17, k_qNeedW hB st_se (by decide) (RqC.good G) (fun y hy fy => ?_)⟩
  have y7 : fI y o 7 = 0 := (fy.1 o 7 ho).trans X7
  obtain ⟨-, -, -, -, t5, -, -, -⟩ := hB.fq hy.fq
  -- behind items
  have fin2 : ∀ z, OutQ q T n F o X (qBd (qWrd T n [115, 101, 108, 101, 99, 116] (-1, 0, ([], [], [], []))) (qIts T n F 17)) z → ((qBd (qWrd T n [115, 101, 108, 101, 99, 116] (-1, 0, ([], [], [], []))) (qIts T n F 17)).1 = -1 → (qBd (qWrd T n [115, 101, 108, 101, 99, 116] (-1, 0, ([], [], [], []))) (qIts T n F 17)).2.2.2.1 = [] ∧ ∀ j, j ∈ (qBd (qWrd T n [115, 101, 108, 101, 99, 116] (-1, 0, ([], [], [], []))) (qIts T n F 17)).2.2.1 → j.2.2 < 2 ^ 31) → (∃ q42 : Nat, fR z o 17 = some q42 ∧ wp_Scn_good (fun (r44 : Int32) (x43 : St) => ((r44 = 0 → j_Qry_readText_85 post o 10 70 x43) ∧ (¬ r44 = 0 → (∃ q46 : Nat, fR x43 o 17 = some q46 ∧ wp_Scn_takeWord (fun (r48 : Int32) (x47 : St) => ((r48 = 0 → j_Qry_readText_85 post o 10 70 x47) ∧ (¬ r48 = 0 → wp_Qry_readCondition (fun (x50 : St) => j_Qry_readText_85 post o 10 70 x50) o 0 x47))) q46 16 x43)))) q42 z) := by
    intro z hz hE
    generalize qBd (qWrd T n [115, 101, 108, 101, 99, 116] (-1, 0, ([], [], [], []))) (qIts T n F 17) = r at *
    obtain ⟨-, -, -, -, u5, -, -, -⟩ := hB.fq hz.1.fq
    refine ⟨10, u5, k_qGood hz.1 (fun c => br_f (by decide) ⟨10, u5, ?_⟩) (fun c => br_t rfl ?_)⟩
    · have g := hz.1.gd c
      have g7 := hz.2 c
      have hk := g.2.1.2.2.2
      obtain ⟨hE1, hE2⟩ := hE c
      rw [qBd_g c] at fin
      have wi : (qWh T n F r.2.1 r.2.2).1 = -1 → (qWh T n F r.2.1 r.2.2).2.2.1 = r.2.2.1 ∧ (qWh T n F r.2.1 r.2.2).2.2.2.1 = r.2.2.2.1 ∧ cll (qWh T n F r.2.1 r.2.2).2.2 = cll r.2.2 := by
        intro e
        obtain ⟨k', E, L, e1, -⟩ := qWh_i hw (by omega) hk e
        rw [e1]
        exact ⟨rfl, rfl, rfl⟩
      have fin3 : ∀ w, OutQ q T n F o X (qWh T n F r.2.1 r.2.2) w → j_Qry_readText_85 post o 10 70 w := fun w hw2 => k_t85 hB hw2 (fun e => by rw [(wi e).2.1]; exact hE1) (fun e => by rw [(wi e).1]; exact hE2) fin
      refine k_qWord hB st_wh (by decide) g (fun w v gv _ f => br_f (by decide) ?_) (fun w v gv f => br_t rfl (fin3 v ?_))
      · have e : qWh T n F r.2.1 r.2.2 = qCnd T n (qTst T n F 32) (n + 1) (skip T n r.2.1 + 5) none none r.2.2 := by unfold qWh; rw [if_pos w]
        refine k_qCnd (hB.fq gv.1) gv.self (fun a ha => fin3 a ?_)
        have ha : RqC False q T n F o v (qCnd T n (qTst T n F 32) (n + 1) (skip T n r.2.1 + 5) none none r.2.2) a := ha
        rw [← e] at ha
        exact ⟨RqC.up gv.1 ha, fun c2 => by rw [(wi c2).2.2, ha.fq.e7 ho]; exact (f.1 o 7 ho).trans g7⟩
      · have e : qWh T n F r.2.1 r.2.2 = (-1, skip T n r.2.1, r.2.2) := by unfold qWh; rw [if_neg w]
        rw [e]
        exact ⟨RqC.good gv, fun _ => (f.1 o 7 ho).trans g7⟩
    · rw [qBd_b c] at fin
      exact k_t85 hB hz (fun e => absurd e c) (fun e => absurd e c) fin
  unfold wp_Qry_readItems
  generalize er : qWrd T n [115, 101, 108, 101, 99, 116] (-1, 0, ([], [], [], [])) = r at *
  refine ⟨10, t5, k_qGood hy (fun c => ?_) (fun c => ⟨1, ?_⟩)⟩
  · have g := hy.gd c
    have e0 : r.2.2 = ([], [], [], []) := by
      rw [← er] at c ⊢
      obtain ⟨-, e4, -⟩ := qWrd_q c (by omega) (Nat.zero_le n)
      rw [e4]
    rw [e0] at g
    rw [qBd_g c, e0] at fin2
    refine ⟨18, k_qItsL hB 17 _ ([], [], [], []) y (by decide) g y7 (fun z hz z7 => fin2 z ⟨hz, z7⟩ (fun e => ?_))⟩
    obtain ⟨k', L, e1, -, hL2, -⟩ := qIts_w hw (by omega) 17 r.2.1 ([], [], [], []) g.2.1.2.2.2 e
    rw [e1]
    refine ⟨rfl, fun j hj => ?_⟩
    have hj : j ∈ [] ++ L := hj
    rw [List.nil_append] at hj
    have := (hL2 j hj).1
    omega
  · rw [qBd_b c] at fin2
    show j_Qry_readItems_10 _ _ o 0 0 y
    unfold j_Qry_readItems_10
    exact br_f (by decide) (br_t rfl (fin2 y ⟨hy, fun e => absurd e c⟩ (fun e => absurd e c)))
end
