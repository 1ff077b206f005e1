/-! tests of a query, class -/
section
variable {b : Prop} {q n o : Nat} {T : Nat → Int32} {F : List SFd} {x y : St} {Q : Qy} {k : Nat}
theorem k_qLstL (hB : BsC x q n F o) {post : St → Prop} {ty : Int32} : ∀ d k Q i y, 64 ≤ Q.2.2.2.length + d → i ≤ k → GdC b q T n F o x y k Q → (∀ z, RqC b q T n F o x (qBd (qLit T n ty k Q) (qLst T n ty d)) z → post z) → wl_Qry_readList_19 post (d + 2) o ty 1 (nI i) y := by
  have t2 := hB.1
  have ex : ∀ (m i : Nat) (r : QR) (y : St), RqC b q T n F o x r y → (∀ z, RqC b q T n F o x (qSgn T n 41 r) z → post z) → wl_Qry_readList_19 post (m + 1) o ty 0 (nI i) y := by
    intro m i r y h p
    obtain ⟨-, -, -, -, t5, -, -, -⟩ := hB.fq h.fq
    have m73 : j_Qry_readList_73 post o ty 0 (nI i) y := by
      unfold j_Qry_readList_73
      exact ⟨10, t5, k_qNeedS hB (by decide) h (fun z hz _ => p z hz)⟩
    show j_Qry_readList_19 post _ o ty 0 (nI i) y
    unfold j_Qry_readList_19
    exact ⟨10, t5, ⟨fun _ => m73, fun _ => br_t rfl m73⟩⟩
  intro d
  induction d with
  | zero =>
    intro k Q i y hd hi h p
    obtain ⟨-, -, -, -, t5, -, -, -⟩ := hB.fq h.1
    have hk := h.2.1.2.2.2
    have e1 : fI y 10 1 = nI n := h.2.1.1.2.1
    show j_Qry_readList_19 post (wl_Qry_readList_19 post (0 + 1)) o ty 1 (nI i) y
    unfold j_Qry_readList_19
    refine ⟨10, t5, br_f (by rw [e1]; (first | omega | (simp (disch := omega) only [Int32.le_iff_toInt_le, Int32.lt_iff_toInt_lt, z_eq, z_in, nI_toInt, z_cl, z_m1, z_sg, z_255, Int32.reduceToInt] <;> omega) | (simp only [Int32.le_iff_toInt_le, Int32.lt_iff_toInt_lt, z_eq, z_in, z_add, z_sub, z_mul, z_neg, z_nI, z_cl, z_sg, z_255, z_lit, Int32.reduceToInt] <;> omega))) (br_f (by decide) (k_qLit hB h (fun z hz => ?_)))⟩
    obtain ⟨-, -, -, -, u5, -, -, -⟩ := hB.fq hz.fq
    refine ⟨10, u5, k_qGood hz (fun c => ?_) (fun c => br_t rfl ?_)⟩
    · obtain ⟨k', l, e, -⟩ := qLit_w (show n < 2 ^ 31 by omega) hk c
      have := (hz.gd c).2.2.1.2.2.2.2.1
      rw [e] at this
      have this : (Q.2.2.2 ++ [l]).length ≤ 64 := this
      rw [List.length_append] at this
      have this : Q.2.2.2.length + 1 ≤ 64 := this
      omega
    · unfold j_Qry_readList_65 j_Qry_readList_66
      rw [nI_1]
      refine ex 0 (i + 1) _ z hz (fun w hw => p w ?_)
      rw [qSgn_b c] at hw
      rw [qBd_b c]
      exact hw
  | succ d ih =>
    intro k Q i y hd hi h p
    obtain ⟨-, -, -, -, t5, -, -, -⟩ := hB.fq h.1
    have hk := h.2.1.2.2.2
    have e1 : fI y 10 1 = nI n := h.2.1.1.2.1
    show j_Qry_readList_19 post (wl_Qry_readList_19 post (d + 2)) o ty 1 (nI i) y
    unfold j_Qry_readList_19
    refine ⟨10, t5, br_f (by rw [e1]; (first | omega | (simp (disch := omega) only [Int32.le_iff_toInt_le, Int32.lt_iff_toInt_lt, z_eq, z_in, nI_toInt, z_cl, z_m1, z_sg, z_255, Int32.reduceToInt] <;> omega) | (simp only [Int32.le_iff_toInt_le, Int32.lt_iff_toInt_lt, z_eq, z_in, z_add, z_sub, z_mul, z_neg, z_nI, z_cl, z_sg, z_255, z_lit, Int32.reduceToInt] <;> omega))) (br_f (by decide) (k_qLit hB h (fun z hz => ?_)))⟩
    obtain ⟨-, -, -, -, u5, -, -, -⟩ := hB.fq hz.fq
    refine ⟨10, u5, k_qGood hz (fun c => br_f (by decide) ⟨10, u5, ?_⟩) (fun c => br_t rfl ?_)⟩
    · obtain ⟨k', l, e, -, k1, k2⟩ := qLit_w (show n < 2 ^ 31 by omega) hk c
      rw [qBd_g c] at p
      rw [e] at p hz
      have g := hz.gd rfl
      have g : GdC b q T n F o x z k' (Q.1, Q.2.1, Q.2.2.1, Q.2.2.2 ++ [l]) := g
      have p : ∀ z, RqC b q T n F o x (qLst T n ty (d + 1) k' (Q.1, Q.2.1, Q.2.2.1, Q.2.2.2 ++ [l])) z → post z := p
      unfold qLst at p
      have sg := skip_ge T n k'
      refine k_qSign hB (by decide) g (fun a1 a2 w gw _ => br_f (by decide) ?_) (fun a w gw _ => br_t rfl ?_)
      · rw [if_pos ⟨a1, a2⟩] at p
        unfold j_Qry_readList_66
        rw [nI_1]
        refine ih _ _ (i + 1) w ?_ (by omega) gw p
        show 64 ≤ (Q.2.2.2 ++ [l]).length + d
        rw [List.length_append]
        show 64 ≤ Q.2.2.2.length + 1 + d
        omega
      · rw [if_neg a] at p
        unfold j_Qry_readList_65 j_Qry_readList_66
        rw [nI_1]
        exact ex (d + 1) (i + 1) _ w (RqC.good gw) p
    · unfold j_Qry_readList_65 j_Qry_readList_66
      rw [nI_1]
      refine ex (d + 1) (i + 1) _ z hz (fun w hw => p w ?_)
      rw [qSgn_b c] at hw
      rw [qBd_b c]
      exact hw
theorem k_qLst (hB : BsC x q n F o) {post : St → Prop} {ty : Int32} (h : GdC b q T n F o x y k Q) (p : ∀ z, RqC b q T n F o x (qBd (qBd (qSgn T n 40 (-1, k, Q)) (qLit T n ty)) (qLst T n ty 65)) z → post z) : wp_Qry_readList post o ty y := by
  have t2 := hB.1
  obtain ⟨-, -, -, -, t5, -, -, -⟩ := hB.fq h.1
  unfold wp_Qry_readList
  refine ⟨10, t5, k_qNeedS hB (by decide) (RqC.good h) (fun z hz _ => ?_)⟩
  obtain ⟨-, -, -, -, u5, -, -, -⟩ := hB.fq hz.fq
  refine ⟨10, u5, k_qGood hz (fun c => ?_) (fun c => ?_)⟩
  · rw [qBd_g c] at p
    exact ⟨_, k_qLstL hB 65 _ _ 0 z (by omega) (Nat.zero_le _) (hz.gd c) p⟩
  · rw [qBd_b c, qBd_b c] at p
    refine ⟨1, ?_⟩
    show j_Qry_readList_19 post _ o ty 0 0 z
    have m73 : j_Qry_readList_73 post o ty 0 0 z := by
      unfold j_Qry_readList_73
      refine ⟨10, u5, k_qNeedS hB (by decide) hz (fun w hw _ => p w ?_)⟩
      rw [qSgn_b c] at hw
      exact hw
    unfold j_Qry_readList_19
    exact ⟨10, u5, ⟨fun _ => m73, fun _ => br_t rfl m73⟩⟩
theorem k_behind (hB : BsC x q n F o) {post : Int32 → St → Prop} {c : Int32} (hc : 0 ≤ c) (h : GdC b q T n F o x y k Q) (p1 : k < n → T k = c → ∀ z, GdC b q T n F o x z (k + 1) Q → post 1 z) (p0 : ¬ (k < n ∧ T k = c) → post 0 y) : wp_Qry_takeBehind post o c y := by
  have t2 := hB.1
  obtain ⟨-, -, -, -, t5, -, t7, -⟩ := hB.fq h.1
  have hs := h.2.1
  have hk := hs.2.2.2
  unfold wp_Qry_takeBehind
  refine ⟨10, t5, 10, t5, ?_⟩
  rw [hs.2.1]
  refine c_byteAt hs.1 (by omega) ?_
  by_cases d : k < n ∧ T k = c
  · rw [if_pos d.1]
    refine br_t d.2 ⟨10, t5, ?_⟩
    rw [hs.2.1, nI_1]
    exact nm_e (p1 d.1 d.2 _ (h.mv t7 FrT.i (hs.go (by omega)) (by omega)))
  · refine br_f (fun e => d ?_) (p0 d)
    by_cases d2 : k < n
    · rw [if_pos d2] at e; exact ⟨d2, e⟩
    · rw [if_neg d2] at e; rw [← e] at hc; exact absurd hc (by decide)
theorem k_qOp (hB : BsC x q n F o) {post : Int32 → St → Prop} (h : GdC b q T n F o x y k Q)
    (p1 : (qOp T n k).1 = -1 → ∀ z, GdC b q T n F o x z (qOp T n k).2.1 Q → post (cop (nI (qOp T n k).2.2)) z)
    (p0 : ¬ (qOp T n k).1 = -1 → ∀ v z, FfC b q T n o x z (qOp T n k).1 → post v z) : wp_Qry_readOperator post o y := by
  have t2 := hB.1
  obtain ⟨-, -, -, -, t5, -, t7, -⟩ := hB.fq h.1
  have sl := @skip_le T n k h.2.1.2.2.2
  have ne : ¬ nI (skip T n k) = -1 := nI_nm1 (by omega)
  unfold wp_Qry_readOperator
  unfold qOp at p1 p0
  refine ⟨10, t5, k_qSign hB (by decide) h (fun a1 a2 z gz _ => br_f (by decide) ?_) (fun a z gz _ => br_t rfl ?_)⟩
  · rw [if_neg (fun e => e a1), if_pos a2] at p1
    exact p1 rfl z gz
  obtain ⟨-, -, -, -, u5, -, -, -⟩ := hB.fq gz.1
  refine ⟨10, u5, k_qSign hB (by decide) gz (fun a1 a2 w gw _ => br_f (by decide) ?_) (fun a' w gw _ => br_t rfl ?_)⟩
  · rw [skip_skip] at a1 a2 gw
    have n61 : ¬ T (skip T n k) = 61 := by rw [a2]; decide
    rw [if_neg (fun e => e a1), if_neg n61, if_pos a2] at p1
    refine k_behind hB (by decide) gw (fun b1 b2 v gv => br_f (by decide) ?_) (fun b1 => br_t rfl ?_)
    · rw [if_pos ⟨b1, b2⟩] at p1
      exact p1 rfl v gv
    · rw [if_neg b1] at p1
      refine k_behind hB (by decide) gw (fun b2 b3 v gv => br_f (by decide) ?_) (fun b2 => br_t rfl ?_)
      · rw [if_pos ⟨b2, b3⟩] at p1
        exact p1 rfl v gv
      · rw [if_neg b2] at p1
        exact p1 rfl w gw
  rw [skip_skip] at a' gw
  obtain ⟨-, -, -, -, v5, -, -, -⟩ := hB.fq gw.1
  refine ⟨10, v5, k_qSign hB (by decide) gw (fun a1 a2 v gv _ => br_f (by decide) ?_) (fun a'' v gv _ => br_t rfl ?_)⟩
  · rw [skip_skip] at a1 a2 gv
    have n61 : ¬ T (skip T n k) = 61 := by rw [a2]; decide
    have n60 : ¬ T (skip T n k) = 60 := by rw [a2]; decide
    rw [if_neg (fun e => e a1), if_neg n61, if_neg n60, if_pos a2] at p1
    refine k_behind hB (by decide) gv (fun b2 b3 u gu => br_f (by decide) ?_) (fun b2 => br_t rfl ?_)
    · rw [if_pos ⟨b2, b3⟩] at p1
      exact p1 rfl u gu
    · rw [if_neg b2] at p1
      exact p1 rfl v gv
  rw [skip_skip] at a'' gv
  obtain ⟨-, -, -, -, w5, -, -, -⟩ := hB.fq gv.1
  have e : (if ¬ skip T n k < n then ((nI (skip T n k), skip T n k, 0) : Int32 × Nat × Nat) else if T (skip T n k) = 61 then (-1, skip T n k + 1, 0) else if T (skip T n k) = 60 then (if skip T n k + 1 < n ∧ T (skip T n k + 1) = 62 then (-1, skip T n k + 2, 1) else if skip T n k + 1 < n ∧ T (skip T n k + 1) = 61 then (-1, skip T n k + 2, 3) else (-1, skip T n k + 1, 2)) else if T (skip T n k) = 62 then (if skip T n k + 1 < n ∧ T (skip T n k + 1) = 61 then (-1, skip T n k + 2, 5) else (-1, skip T n k + 1, 4)) else (nI (skip T n k), skip T n k, 0)) = (nI (skip T n k), skip T n k, 0) := by
    by_cases d : skip T n k < n
    · rw [if_neg (fun e => e d), if_neg (fun e => a ⟨d, e⟩), if_neg (fun e => a' ⟨d, e⟩), if_neg (fun e => a'' ⟨d, e⟩)]
    · rw [if_pos d]
  rw [e] at p0
  refine ⟨10, w5, 10, w5, ?_⟩
  rw [gv.2.1.2.1]
  exact k_qRef hB (by omega) (RqC.good gv) (fun u hu => p0 ne _ u (hu.ft ne))
theorem k_truth (hB : BsC x q n F o) {post : Int32 → St → Prop} (h : GdC b q T n F o x y k Q) (hk : skip T n k = k) (p : ∀ z, GdC b q T n F o x z k Q → post (if isWd T n k [116, 114, 117, 101] ∨ isWd T n k [102, 97, 108, 115, 101] then 1 else 0) z) : wp_Qry_atTruth post o y := by
  obtain ⟨-, -, -, -, t5, -, t7, -⟩ := hB.fq h.1
  have hs := h.2.1
  unfold wp_Qry_atTruth
  have m37 : ∀ z v, FrT y z → (∃ j, ScC z q T n j (-1)) → fR z o 17 = some 10 → (v = 0 ∨ v = 1) → v = (if isWd T n k [116, 114, 117, 101] ∨ isWd T n k [102, 97, 108, 115, 101] then 1 else 0) → j_Qry_atTruth_37 post o (nI k) v z := by
    intro z v f sz z17 hv ev
    obtain ⟨j, sz⟩ := sz
    unfold j_Qry_atTruth_37
    refine ⟨10, z17, nm_e ⟨by rcases hv with e | e <;> rw [e] <;> rfl, ?_⟩⟩
    rw [ev]
    exact p _ (h.mv t7 (f.trans FrT.i) (sz.go hs.2.2.2) (Nat.le_refl _))
  refine ⟨10, t5, nm_r hs.2.1 ⟨10, t5, k_qWord hB st_tr (by decide) h (fun c z gz _ f => bn_f (by decide) ?_) (fun c z gz f => bn_t rfl ?_)⟩⟩
  · rw [hk] at c
    unfold j_Qry_atTruth_32
    exact m37 z 1 f ⟨_, gz.2.1⟩ (hB.fq gz.1).2.2.2.2.1 (Or.inr rfl) (by rw [if_pos (Or.inl c)])
  · rw [hk] at c
    obtain ⟨-, -, -, -, u5, -, -, -⟩ := hB.fq gz.1
    refine ⟨10, u5, k_qWord hB st_fa (by decide) gz (fun c2 w gw _ f2 => br_f (by decide) ?_) (fun c2 w gw f2 => br_t rfl ?_)⟩
    · rw [hk, hk] at c2
      unfold j_Qry_atTruth_32
      exact m37 w 1 (f.trans f2) ⟨_, gw.2.1⟩ (hB.fq gw.1).2.2.2.2.1 (Or.inr rfl) (by rw [if_pos (Or.inr c2)])
    · rw [hk, hk] at c2
      exact m37 w 0 (f.trans f2) ⟨_, gw.2.1⟩ (hB.fq gw.1).2.2.2.2.1 (Or.inl rfl) (by rw [if_neg (fun e => e.elim c c2)])
end
