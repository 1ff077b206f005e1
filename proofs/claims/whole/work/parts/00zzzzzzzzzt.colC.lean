/-! columns of a query, class -/
section
variable {b : Prop} {q n o : Nat} {T : Nat → Int32} {F : List SFd} {x y : St} {Q : Qy} {k : Nat}
theorem ScC.o19 {e v : Int32} {a : Nat} (h : ScC y q T n k e) (ho : o ≠ 10) : ScC (setI y o a v) q T n k e := by
  obtain ⟨⟨h1, h2, h3, h4, h5, h6⟩, h7, h8, h9⟩ := h
  have ei : ∀ c, fI (setI y o a v) 10 c = fI y 10 c := fun c => by
    show (if 10 = o ∧ c = a then v else y.1 10 c) = _
    rw [if_neg (fun z => ho z.1.symm)]
  exact ⟨⟨h1, (ei 1).trans h2, h3, h4, h5, h6⟩, (ei 2).trans h7, (ei 3).trans h8, h9⟩
theorem GdC.p19 {v : Int32} (h : GdC b q T n F o x y k Q) (ho : QId o) : GdC b q T n F o x (setI y o 19 v) k Q := by
  have ho : o ≠ 10 := by rcases ho with e | e <;> omega
  obtain ⟨a1, a2, ⟨b1, b2, b3, b4⟩, a8⟩ := h
  refine ⟨a1.trans (Fg.i (Or.inr ⟨rfl, Or.inr (Or.inr (Or.inr (Or.inl rfl)))⟩)), a2.o19 ho, ⟨?_, ?_, ?_, ?_⟩, a8⟩
  · rw [gI_ne (by decide)]; exact b1
  · rw [gI_ne (by decide)]; exact b2
  · rw [gI_ne (by decide)]; exact b3
  · rw [gI_ne (by decide), gI_ne (by decide)]; exact b4
theorem k_qPath (hB : BsC x q n F o) {post : Int32 → St → Prop} (h : GdC b q T n F o x y k Q)
    (p1 : (qPa T n F k).1 = -1 → ¬ (qPa T n F k).2.2 = -1 → ∀ z, GdC b q T n F o x z (qPa T n F k).2.1 Q → fI z o 19 = nI (skip T n k) → post (qPa T n F k).2.2 z)
    (p2 : (qPa T n F k).1 = -1 → (qPa T n F k).2.2 = -1 → ∀ z, FfC b q T n o x z (nI (skip T n k)) → post (-1) z)
    (p0 : ¬ (qPa T n F k).1 = -1 → ∀ z, FfC b q T n o x z (qPa T n F k).1 → post (-1) z) : wp_Qry_readPath post o y := by
  obtain ⟨t1, hL, hw, hR, t5, t6, t7, t8⟩ := hB.fq h.1
  unfold wp_Qry_readPath
  refine ⟨10, t5, k_qGood (RqC.good h) (fun _ => bn_f (by decide) ⟨10, t5, k_qNext hB h (fun z hz f => ?_)⟩) (fun c => absurd rfl c)⟩
  obtain ⟨-, -, -, -, u5, -⟩ := hB.fq hz.1
  have sl := hz.2.1.2.2.2
  refine ⟨10, u5, nm_r (e' := setI z o 19 (nI (skip T n k))) (by rw [hz.2.1.2.1]) ⟨n + 2, ?_⟩⟩
  exact k_qPthL hB sl (n + 1) (skip T n k) (-1) false 0 _ (by omega) (Nat.zero_le _) (Or.inl ⟨rfl, rfl⟩) (Or.inl rfl) (hz.p19 t7) gI_at p1 (fun a1 a2 z hz _ => p2 a1 a2 z hz) (fun a z hz _ => p0 a z hz)
theorem k_qPathF (hB : BsC x q n F o) {post : Int32 → St → Prop} {e : Int32} (he : ¬ e = -1) (h : FfC b q T n o x y e) (p : post (-1) y) : wp_Qry_readPath post o y := by
  obtain ⟨t1, hL, hw, hR, t5, t6, t7, t8⟩ := hB.fq h.1
  unfold wp_Qry_readPath
  exact ⟨10, t5, k_qGood (r := (e, 0, ([], [], [], []))) (F := F) (h.rs he) (fun c => absurd c he) (fun _ => bn_t rfl p)⟩
theorem k_qCol (hB : BsC x q n F o) {post : Int32 → St → Prop} (h : GdC b q T n F o x y k Q)
    (p1 : (qCol T n F k).1 = -1 → ∀ z, GdC b q T n F o x z (qCol T n F k).2.1 Q → fI z o 19 = nI (skip T n k) → post (nI (qCol T n F k).2.2) z)
    (p0 : ¬ (qCol T n F k).1 = -1 → ∀ v z, FfC b q T n o x z (qCol T n F k).1 → post v z) : wp_Qry_readColumn post o y := by
  have t2 := hB.1
  have hF := hB.2.2.1.1
  have hk := h.2.1.2.2.2
  have sl := @skip_le T n k hk
  have ne : ¬ nI (skip T n k) = -1 := nI_nm1 (by omega)
  unfold wp_Qry_readColumn j_Qry_readColumn_37
  have bad : ∀ e v z, ¬ e = -1 → FfC b q T n o x z e → (qCol T n F k).1 = e → (∃ q3 : Nat, fR z o 17 = some q3 ∧ wp_Scn_good (fun (r5 : Int32) (x4 : St) => ((r5 = 0 → post v x4) ∧ (¬ r5 = 0 → (∃ q7 : Nat, fR x4 o 18 = some q7 ∧ wp_Sch_isFlatColumn (fun (r9 : Int32) (x8 : St) => ((¬ r9 = 0 → post v x8) ∧ (r9 = 0 → (∃ q11 : Nat, fR x8 o 17 = some q11 ∧ wp_Scn_refuse (fun (x12 : St) => post v x12) q11 (fI x8 o 19) x8)))) q7 v x4)))) q3 z) := by
    intro e v z he hz ee
    obtain ⟨-, -, -, -, u5, -⟩ := hB.fq hz.1
    refine ⟨10, u5, k_qGood (r := (e, 0, Q)) (F := F) (hz.rs he) (fun c => absurd c he) (fun _ => br_t rfl (p0 (by rw [ee]; exact he) v z (by rw [ee]; exact hz)))⟩
  refine k_qPath hB h (fun c1 c2 z hz z19 => ?_) (fun c1 c2 z hz => ?_) (fun c1 z hz => ?_)
  · obtain ⟨-, uL, uw, uR, u5, u6, u7, -⟩ := hB.fq hz.1
    refine ⟨10, u5, k_qGood (RqC.good hz) (fun _ => br_f (by decide) ⟨70, u6, ?_⟩) (fun c => absurd rfl c)⟩
    rcases (qPth_f (T := T) (n := n) (F := F) (by omega) (n + 1) (skip T n k) (-1) false) with d | ⟨f, hf, ef⟩
    · exact absurd d c2
    · have ef : (qPa T n F k).2.2 = nI f := ef
      have cf : (nI f).toNatClampNeg = f := nI_clamp (by omega)
      rw [ef]
      refine k_isFlat uL uw uR hf ?_
      by_cases d : rF F f = 0 ∧ fTy F f ≠ 4
      · rw [if_pos d]
        have e : qCol T n F k = (-1, (qPa T n F k).2.1, f) := by
          unfold qCol
          rw [if_neg (fun q => q c1), if_neg (by rw [ef, cf]; exact fun q => q.elim (nI_nm1 (by omega)) (fun q => q.elim d.2 (fun q => q d.1))), ef, cf]
        rw [e] at p1
        exact bn_f (by decide) (p1 rfl z hz z19)
      · rw [if_neg d]
        have e : qCol T n F k = (nI (skip T n k), (qPa T n F k).2.1, 0) := by
          unfold qCol
          rw [if_neg (fun q => q c1), if_pos]
          rw [ef, cf]
          by_cases d1 : fTy F f = 4
          · exact Or.inr (Or.inl d1)
          · exact Or.inr (Or.inr (fun z => d ⟨z, d1⟩))
        rw [e] at p0
        refine bn_t rfl ⟨10, u5, ?_⟩
        rw [z19]
        refine k_qRef hB (by omega) (RqC.good hz) (fun w hw => p0 ne _ w ?_)
        exact hw.ft ne
  · have e : qCol T n F k = (nI (skip T n k), (qPa T n F k).2.1, 0) := by
      unfold qCol
      rw [if_neg (fun q => q c1), if_pos (Or.inl c2)]
    exact bad _ (-1) z ne hz (by rw [e])
  · have e : qCol T n F k = ((qPa T n F k).1, (qPa T n F k).2.1, 0) := by
      unfold qCol
      rw [if_pos c1]
    exact bad _ (-1) z c1 hz (by rw [e])
theorem k_qColF (hB : BsC x q n F o) {post : Int32 → St → Prop} {e : Int32} (he : ¬ e = -1) (h : FfC b q T n o x y e) (p : post (-1) y) : wp_Qry_readColumn post o y := by
  obtain ⟨t1, hL, hw, hR, t5, t6, t7, t8⟩ := hB.fq h.1
  unfold wp_Qry_readColumn j_Qry_readColumn_37
  exact k_qPathF hB he h ⟨10, t5, k_qGood (r := (e, 0, ([], [], [], []))) (F := F) (h.rs he) (fun c => absurd c he) (fun _ => br_t rfl p)⟩
theorem k_whl {P : Int32 → St → Prop} {t : Int32} {y : St} (hP : P (if whl t then 1 else 0) y) : wp_Qry_isNumber P t y := by
  unfold wp_Qry_isNumber j_Qry_isNumber_10
  by_cases e1 : t = 1
  · rw [if_pos (Or.inl e1)] at hP; exact br_t e1 hP
  · by_cases e2 : t = 2
    · rw [if_pos (Or.inr e2)] at hP; exact br_f e1 (bn_t e2 hP)
    · rw [if_neg (fun z => z.elim e1 e2)] at hP; exact br_f e1 (bn_f e2 hP)
end
