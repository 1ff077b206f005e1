/-! conditions of a query, class -/
def oI (p : Option Nat) : Int32 := match p with
  | none => -1
  | some p => nI p
section
variable {b : Prop} {q n o : Nat} {T : Nat → Int32} {F : List SFd} {x : St}
theorem k_addJ (hB : BsC x q n F o) {post : St → Prop} {w form : Int32} {p : Nat} {r : QR} {y : St} (hp : p < 2 ^ 31) (hw : w = 5 ∧ form = 9 ∨ w = 6 ∧ form = 10 ∨ w = 7 ∧ form = 11) (h : RqC b q T n F o x r y) (pp : ∀ z, RqC b q T n F o x (qAdd p (w, -1, -1, -1, 0) r) z → post z) : wp_Qry_addStep post o form (nI p) 0 0 0 y := by
  have := k_qAdd hB (l := (w, -1, -1, -1, 0)) hp h pp
  have ec : clS F (w, -1, -1, -1, 0) = (form, 0, 0, 0) := by
    rcases hw with ⟨e1, e2⟩ | ⟨e1, e2⟩ | ⟨e1, e2⟩ <;> subst e1 e2 <;> rfl
  rw [ec] at this
  exact this
/-- a test, read by some way -/
abbrev okTC (b : Prop) (q n o : Nat) (T : Nat → Int32) (F : List SFd) (x : St) (P : Nat → Qy → QR) (S : (St → Prop) → Nat → Int32 → St → Prop) (l1 : Int32) : Prop := ∀ (k : Nat) (Q : Qy) (y : St) (post : St → Prop), GdC b q T n F o x y k Q → (∀ z, RqC b q T n F o x (P k Q) z → post z) → S post o l1 y
theorem k_cndL (hB : BsC x q n F o) {post : St → Prop} {P : Nat → Qy → QR} {SC ST : (St → Prop) → Nat → Int32 → St → Prop} {l1 : Int32} (hP : ∀ k Q, k ≤ n → ExQ n F 0 Q k (P k Q)) (hS : okTC b q n o T F x P ST l1) : ∀ d k oa aa Q i y, n + 1 ≤ k + d → i ≤ k → (∀ p, aa = some p → p ≤ n) → (∀ p, oa = some p → p ≤ n) → GdC b q T n F o x y k Q → (∀ z, RqC b q T n F o x (qCnd T n P d k oa aa Q) z → post z) → wl_Qry_readCondition_10 post SC ST (d + 1) o l1 (oI oa) (oI aa) 1 (nI i) y := by
  have t2 := hB.1
  have ex : ∀ (m i : Nat) (l2 l3 : Int32) (y : St), FqC b o x y → post y → wl_Qry_readCondition_10 post SC ST (m + 1) o l1 l2 l3 0 (nI i) y := by
    intro m i l2 l3 y f p
    obtain ⟨-, -, -, -, t5, -, -, -⟩ := hB.fq f
    show j_Qry_readCondition_10 post SC ST _ o l1 l2 l3 0 (nI i) y
    unfold j_Qry_readCondition_10
    exact ⟨10, t5, ⟨fun _ => p, fun _ => br_t rfl p⟩⟩
  intro d
  induction d with
  | zero =>
    intro k oa aa Q i y hd _ _ _ h
    have := h.2.1.2.2.2
    omega
  | succ d ih =>
    intro k oa aa Q i y hd hi haa hoa h pp
    obtain ⟨-, -, -, -, t5, -, -, -⟩ := hB.fq h.1
    have hk := h.2.1.2.2.2
    have e1 : fI y 10 1 = nI n := h.2.1.1.2.1
    have eq1 : qCnd T n P (d + 1) k oa aa Q = qBd (qAt 6 aa (P k Q)) (fun k Q => if isWd T n (skip T n k) [97, 110, 100] then qCnd T n P d (skip T n k + 3) oa (some (skip T n k)) Q else qBd (qAt 7 oa (-1, skip T n k, Q)) (fun k Q => if isWd T n (skip T n k) [111, 114] then qCnd T n P d (skip T n k + 2) (some (skip T n k)) none Q else (-1, skip T n k, Q))) := rfl
    rw [eq1] at pp
    show j_Qry_readCondition_10 post SC ST (wl_Qry_readCondition_10 post SC ST (d + 1)) o l1 (oI oa) (oI aa) 1 (nI i) y
    unfold j_Qry_readCondition_10
    refine ⟨10, t5, br_f (by rw [e1]; (first | omega | (simp (disch := omega) only [Int32.le_iff_toInt_le, Int32.lt_iff_toInt_lt, z_eq, z_in, nI_toInt, z_cl, z_m1, z_sg, z_255, Int32.reduceToInt] <;> omega) | (simp only [Int32.le_iff_toInt_le, Int32.lt_iff_toInt_lt, z_eq, z_in, z_add, z_sub, z_mul, z_neg, z_nI, z_cl, z_sg, z_255, z_lit, Int32.reduceToInt] <;> omega))) (br_f (by decide) (hS k Q y _ h (fun z hz => ?_)))⟩
    -- at the end, good or not
    have m113 : ∀ (l2 l3 : Int32) (r : QR) (u : St), RqC b q T n F o x r u → (∀ z, RqC b q T n F o x (qBd r (fun k Q => if isWd T n (skip T n k) [111, 114] then qCnd T n P d (skip T n k + 2) (some (skip T n k)) none Q else (-1, skip T n k, Q))) z → post z) → (r.1 = -1 → k < r.2.1 ∧ l3 = -1) → j_Qry_readCondition_113 post SC ST (wl_Qry_readCondition_10 post SC ST (d + 1)) o l1 l2 l3 0 (nI i) u := by
      intro l2 l3 r u hu qq hr
      obtain ⟨-, -, -, -, u5, -, -, -⟩ := hB.fq hu.fq
      unfold j_Qry_readCondition_113 j_Qry_readCondition_151
      rw [nI_1]
      refine bn_t rfl ⟨10, u5, k_qGood hu (fun c => br_f (by decide) ⟨10, u5, ?_⟩) (fun c => br_t rfl ?_)⟩
      · have gu := hu.gd c
        obtain ⟨kr, l3e⟩ := hr c
        rw [qBd_g c] at qq
        have sg := skip_ge T n r.2.1
        refine k_qWord hB st_or (by decide) gu (fun w v gv e4 _ => br_f (by decide) ?_) (fun w v gv _ => br_t rfl ?_)
        · simp only [if_pos w] at qq
          obtain ⟨-, -, -, -, v5, -, -, -⟩ := hB.fq gv.1
          refine ⟨10, v5, nm_r e4 ?_⟩
          have sl := @skip_le T n r.2.1 gu.2.1.2.2.2
          have := ih (skip T n r.2.1 + 2) (some (skip T n r.2.1)) none r.2.2 (i + 1) v (by omega) (by omega) (fun p e => nomatch e) (fun p e => by injection e with e; omega) gv qq
          rw [l3e]
          exact this
        · simp only [if_neg w] at qq
          exact ex d (i + 1) _ _ v gv.1 (qq v (RqC.good gv))
      · rw [qBd_b c] at qq
        exact ex d (i + 1) _ _ u hu.fq (qq u hu)
    have m73 : ∀ (l3 l4 : Int32) (r : QR) (u : St), RqC b q T n F o x r u → (∀ z, RqC b q T n F o x (qBd (qAt 7 oa r) (fun k Q => if isWd T n (skip T n k) [111, 114] then qCnd T n P d (skip T n k + 2) (some (skip T n k)) none Q else (-1, skip T n k, Q))) z → post z) → (r.1 = -1 → k < r.2.1) → j_Qry_readCondition_73 post SC ST (wl_Qry_readCondition_10 post SC ST (d + 1)) o l1 (oI oa) l3 l4 (nI i) u := by
      intro l3 l4 r u hu qq hr
      unfold j_Qry_readCondition_73 j_Qry_readCondition_74 j_Qry_readCondition_92
      refine br_t rfl (bn_t rfl ?_)
      cases oa with
      | none => exact br_t rfl (m113 _ _ r u hu qq (fun c => ⟨hr c, rfl⟩))
      | some p =>
        have hp := hoa p rfl
        refine br_f (nI_nm1 (by omega)) (k_addJ hB (w := 7) (by omega) (Or.inr (Or.inr ⟨rfl, rfl⟩)) hu (fun v hv => m113 _ _ _ v hv qq (fun c => ⟨?_, rfl⟩)))
        obtain ⟨c2, e⟩ := qAdd_q (by omega) c
        rw [e]
        exact hr c2
    have m47 : ∀ (u : St), RqC b q T n F o x (qAt 6 aa (P k Q)) u → j_Qry_readCondition_47 post SC ST (wl_Qry_readCondition_10 post SC ST (d + 1)) o l1 (oI oa) (oI aa) 1 (nI i) u := by
      intro u hu
      obtain ⟨-, -, -, -, u5, -, -, -⟩ := hB.fq hu.fq
      unfold j_Qry_readCondition_47
      refine ⟨10, u5, k_qGood hu (fun c => br_f (by decide) ⟨10, u5, ?_⟩) (fun c => br_t rfl ?_)⟩
      · have gu := hu.gd c
        rw [qBd_g c] at pp
        have kr : k < (qAt 6 aa (P k Q)).2.1 := by
          have w := ExQ.at (w := 6) (p := aa) (Or.inl rfl) (fun p e => by have := haa p e; omega) (hP k Q hk)
          obtain ⟨k', E, L, e, h2, -⟩ := w c
          rw [e]
          exact h2
        generalize qAt 6 aa (P k Q) = r at *
        have sg := skip_ge T n r.2.1
        have sl := @skip_le T n r.2.1 gu.2.1.2.2.2
        refine k_qWord hB st_an (by decide) gu (fun w v gv e4 _ => br_f (by decide) ?_) (fun w v gv _ => br_t rfl ?_)
        · simp only [if_pos w] at pp
          obtain ⟨-, -, -, -, v5, -, -, -⟩ := hB.fq gv.1
          unfold j_Qry_readCondition_74 j_Qry_readCondition_92 j_Qry_readCondition_113 j_Qry_readCondition_151
          refine br_f (by decide) ⟨10, v5, bn_f (by decide) (bn_f (by decide) ?_)⟩
          rw [e4, nI_1]
          exact ih (skip T n r.2.1 + 3) oa (some (skip T n r.2.1)) r.2.2 (i + 1) v (by omega) (by omega) (fun p e => by injection e with e; omega) hoa gv pp
        · simp only [if_neg w] at pp
          exact m73 _ _ (-1, skip T n r.2.1, r.2.2) v (RqC.good gv) pp (fun _ => by show k < skip T n r.2.1; omega)
      · have e7 : qAt 7 oa (qAt 6 aa (P k Q)) = qAt 6 aa (P k Q) := qAt_b c
        rw [qBd_b c] at pp
        refine m73 _ _ (qAt 6 aa (P k Q)) u hu ?_ (fun e => absurd e c)
        rw [e7, qBd_b c]
        exact pp
    cases aa with
    | none => exact br_t rfl (m47 z hz)
    | some p =>
      have hp := haa p rfl
      exact br_f (nI_nm1 (by omega)) (k_addJ hB (w := 6) (by omega) (Or.inr (Or.inl ⟨rfl, rfl⟩)) hz m47)
theorem k_tst (hB : BsC x q n F o) : ∀ m, m ≤ 32 → ∀ D, 2 * m + 1 ≤ D → okTC b q n o T F x (qTst T n F m) (wr_Qry_readCondition D).2 (nI (32 - m)) := by
  have t2 := hB.1
  have hw := hB.2.2.1
  intro m
  induction m with
  | zero =>
    intro _ D hD k Q y post h pp
    obtain ⟨D', rfl⟩ : ∃ j, D = j + 1 := ⟨D - 1, by omega⟩
    obtain ⟨-, -, -, -, t5, -, -, -⟩ := hB.fq h.1
    show wb_Qry_readTest post _ _ o (nI 32) y
    unfold wb_Qry_readTest
    unfold qTst at pp
    refine ⟨10, t5, k_qNext hB h (fun z hz _ => ?_)⟩
    obtain ⟨-, -, -, -, u5, -, -, -⟩ := hB.fq hz.1
    have sl := hz.2.1.2.2.2
    have ne : ¬ nI (skip T n k) = -1 := nI_nm1 (by omega)
    have m47 : (isWd T n (skip T n k) [110, 111, 116] ∨ skip T n k < n ∧ T (skip T n k) = 40) → ∀ (l3 : Int32) (k2 : Nat) (u : St), GdC b q T n F o x u k2 Q → j_Qry_readTest_42 post (wr_Qry_readCondition D').1 (wr_Qry_readCondition D').2 o (nI 32) (nI (skip T n k)) l3 u := by
      intro c l3 k2 u gu
      obtain ⟨-, -, -, -, v5, -, -, -⟩ := hB.fq gu.1
      rw [if_pos c] at pp
      unfold j_Qry_readTest_42
      refine br_f (by decide) ⟨10, v5, k_qRef hB (by omega) (RqC.good gu) (fun v hv => pp v ?_)⟩
      exact (hv.ft ne).rs ne
    refine ⟨10, u5, nm_r hz.2.1.2.1 ⟨10, u5, k_qWord hB st_no (by decide) hz (fun c v gv _ _ => bn_f (by decide) ?_) (fun c v gv _ => bn_t rfl ?_)⟩⟩
    · rw [skip_skip] at c
      exact m47 (Or.inl c) _ _ v gv
    · rw [skip_skip] at c gv
      obtain ⟨-, -, -, -, v5, -, -, -⟩ := hB.fq gv.1
      refine ⟨10, v5, k_qSign hB (by decide) gv (fun a1 a2 w gw _ => br_f (by decide) ?_) (fun a w gw _ => br_t rfl ?_)⟩
      · rw [skip_skip] at a1 a2
        exact m47 (Or.inr ⟨a1, a2⟩) _ _ w gw
      · rw [skip_skip] at a gw
        rw [if_neg (fun e => e.elim c a), ← qAsk_skip] at pp
        exact k_qAsk hB (skip_skip _ _ _) gw pp
  | succ m ih =>
    intro hm D hD k Q y post h pp
    obtain ⟨D', rfl⟩ : ∃ j, D = j + 2 := ⟨D - 2, by omega⟩
    have ihT := ih (by omega) (D' + 1) (by omega)
    have ihT2 := ih (by omega) D' (by omega)
    obtain ⟨-, -, -, -, t5, -, -, -⟩ := hB.fq h.1
    have e32 : nI (32 - (m + 1)) + 1 = nI (32 - m) := by rw [nI_1, show 32 - (m + 1) + 1 = 32 - m by omega]
    show wb_Qry_readTest post (wr_Qry_readCondition (D' + 1)).1 (wr_Qry_readCondition (D' + 1)).2 o (nI (32 - (m + 1))) y
    unfold wb_Qry_readTest
    unfold qTst at pp
    refine ⟨10, t5, k_qNext hB h (fun z hz _ => ?_)⟩
    obtain ⟨-, -, -, -, u5, -, -, -⟩ := hB.fq hz.1
    have sl := hz.2.1.2.2.2
    have lt32 : nI (32 - (m + 1)) < 32 := by
      have : (32 : Int32) = nI 32 := rfl
      (first | omega | (simp (disch := omega) only [Int32.le_iff_toInt_le, Int32.lt_iff_toInt_lt, z_eq, z_in, nI_toInt, z_cl, z_m1, z_sg, z_255, Int32.reduceToInt] <;> omega) | (simp only [Int32.le_iff_toInt_le, Int32.lt_iff_toInt_lt, z_eq, z_in, z_add, z_sub, z_mul, z_neg, z_nI, z_cl, z_sg, z_255, z_lit, Int32.reduceToInt] <;> omega))
    refine ⟨10, u5, nm_r hz.2.1.2.1 ⟨10, u5, k_qWord hB st_no (by decide) hz (fun c v gv _ _ => bn_f (by decide) ?_) (fun c v gv _ => bn_t rfl ?_)⟩⟩
    · have gv : GdC b q T n F o x v (skip T n (skip T n k) + 3) Q := gv
      rw [skip_skip] at c gv
      rw [if_pos c] at pp
      unfold j_Qry_readTest_42
      refine br_t lt32 (br_f (by decide) ?_)
      rw [e32]
      refine ihT _ Q v _ gv (fun w hw2 => ?_)
      exact k_addJ hB (w := 5) (by omega) (Or.inl ⟨rfl, rfl⟩) hw2 pp
    · rw [skip_skip] at c gv
      obtain ⟨-, -, -, -, v5, -, -, -⟩ := hB.fq gv.1
      refine ⟨10, v5, k_qSign hB (by decide) gv (fun a1 a2 w gw _ => br_f (by decide) ?_) (fun a w gw _ => br_t rfl ?_)⟩
      · rw [skip_skip] at a1 a2 gw
        rw [if_neg c, if_pos ⟨a1, a2⟩] at pp
        unfold j_Qry_readTest_42
        refine br_t lt32 (br_t rfl ?_)
        rw [e32]
        show wb_Qry_readCondition _ (wr_Qry_readCondition D').1 (wr_Qry_readCondition D').2 o (nI (32 - m)) w
        unfold wb_Qry_readCondition
        refine ⟨n + 1 + 1, k_cndL hB (fun k Q hk => qTst_w (T := T) hw (by omega) m k Q hk) ihT2 (n + 1) (skip T n k + 1) none none Q 0 w (by omega) (Nat.zero_le _) (fun p e => nomatch e) (fun p e => nomatch e) gw (fun v2 hv2 => ?_)⟩
        obtain ⟨-, -, -, -, w5, -, -, -⟩ := hB.fq hv2.fq
        exact ⟨10, w5, k_qNeedS hB (by decide) hv2 (fun v3 hv3 _ => pp v3 hv3)⟩
      · rw [skip_skip] at a gw
        rw [if_neg c, if_neg a, ← qAsk_skip] at pp
        exact k_qAsk hB (skip_skip _ _ _) gw pp
theorem k_qCnd (hB : BsC x q n F o) {post : St → Prop} {k : Nat} {Q : Qy} {y : St} (h : GdC b q T n F o x y k Q) (pp : ∀ z, RqC b q T n F o x (qCnd T n (qTst T n F 32) (n + 1) k none none Q) z → post z) : wp_Qry_readCondition post o 0 y := by
  have t2 := hB.1
  unfold wp_Qry_readCondition
  show wb_Qry_readCondition post (wr_Qry_readCondition 199).1 (wr_Qry_readCondition 199).2 o 0 y
  unfold wb_Qry_readCondition
  exact ⟨n + 1 + 1, k_cndL hB (fun k Q hk => qTst_w (T := T) hB.2.2.1 (by omega) 32 k Q hk) (k_tst hB 32 (by decide) 199 (by decide)) (n + 1) k none none Q 0 y (by omega) (Nat.zero_le _) (fun p e => nomatch e) (fun p e => nomatch e) h pp⟩
end
