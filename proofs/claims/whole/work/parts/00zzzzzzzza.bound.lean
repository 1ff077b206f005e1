/-! how long the text of a record can be -/
def smC (p : Nat → Bool) (v : Nat → Nat) : Nat → Nat
  | 0 => 0
  | N + 1 => smC p v N + (if p N = true then v N else 0)
theorem smC_two {p q r : Nat → Bool} {v : Nat → Nat} : ∀ N, (∀ c, c < N → p c = true → r c = true) → (∀ c, c < N → q c = true → r c = true) → (∀ c, c < N → p c = true → q c = true → False) → smC p v N + smC q v N ≤ smC r v N := by
  intro N
  induction N with
  | zero => intro _ _ _; exact Nat.le_refl _
  | succ N ih =>
    intro h1 h2 h3
    have := ih (fun c hc => h1 c (by omega)) (fun c hc => h2 c (by omega)) (fun c hc => h3 c (by omega))
    show smC p v N + (if p N = true then v N else 0) + (smC q v N + (if q N = true then v N else 0)) ≤ smC r v N + (if r N = true then v N else 0)
    by_cases cp : p N = true
    · rw [if_pos cp, if_neg (fun z => h3 N (Nat.lt_succ_self _) cp z), if_pos (h1 N (Nat.lt_succ_self _) cp)]
      omega
    · rw [if_neg cp]
      by_cases cq : q N = true
      · rw [if_pos cq, if_pos (h2 N (Nat.lt_succ_self _) cq)]
        omega
      · rw [if_neg cq]
        omega
theorem smC_le {p r : Nat → Bool} {v w : Nat → Nat} : ∀ N, (∀ c, c < N → p c = true → r c = true ∧ v c ≤ w c) → smC p v N ≤ smC r w N := by
  intro N
  induction N with
  | zero => intro _; exact Nat.le_refl _
  | succ N ih =>
    intro h
    have := ih (fun c hc => h c (by omega))
    show smC p v N + (if p N = true then v N else 0) ≤ smC r w N + (if r N = true then w N else 0)
    by_cases cp : p N = true
    · obtain ⟨a, b⟩ := h N (Nat.lt_succ_self _) cp
      rw [if_pos cp, if_pos a]
      omega
    · rw [if_neg cp]
      omega
theorem smC_add {p : Nat → Bool} {v w u : Nat → Nat} : ∀ N, (∀ c, c < N → p c = true → v c + w c ≤ u c) → smC p v N + smC p w N ≤ smC p u N := by
  intro N
  induction N with
  | zero => intro _; exact Nat.le_refl _
  | succ N ih =>
    intro h
    have := ih (fun c hc => h c (by omega))
    show smC p v N + (if p N = true then v N else 0) + (smC p w N + (if p N = true then w N else 0)) ≤ smC p u N + (if p N = true then u N else 0)
    by_cases cp : p N = true
    · have := h N (Nat.lt_succ_self _) cp
      rw [if_pos cp, if_pos cp, if_pos cp]
      omega
    · rw [if_neg cp, if_neg cp, if_neg cp]
      omega
theorem smC_pos {p : Nat → Bool} {v : Nat → Nat} {c : Nat} : ∀ N, c < N → p c = true → 1 ≤ v c → 1 ≤ smC p v N := by
  intro N
  induction N with
  | zero => intro h; exact absurd h (Nat.not_lt_zero _)
  | succ N ih =>
    intro h h1 h2
    show 1 ≤ smC p v N + (if p N = true then v N else 0)
    by_cases e : c = N
    · rw [← e, if_pos h1]; omega
    · have := ih (by omega) h1 h2
      omega
def uB (F : List SFd) (W : Nat → Bool) (f c : Nat) : Bool := W c && decide (dsc F f (lfC F c))
def gB (F : List SFd) (W : Nat → Bool) (g : Int32) (f c : Nat) : Bool := W c && (List.range F.length).any (fun h => decide (f ≤ h ∧ fPa F h = g ∧ dsc F h (lfC F c)))
abbrev dlt (r : Nat) (S : Nat → List SEn) (c : Nat) : Nat := (S c).length - (rst r (S c)).length
section
variable {F : List SFd} {W : Nat → Bool} {S : Nat → List SEn} {g : Int32} {f c : Nat}
theorem uB_iff : uB F W f c = true ↔ W c = true ∧ dsc F f (lfC F c) := by
  unfold uB
  rw [Bool.and_eq_true]
  exact ⟨fun h => ⟨h.1, of_decide_eq_true h.2⟩, fun h => ⟨h.1, decide_eq_true h.2⟩⟩
theorem gB_iff : gB F W g f c = true ↔ W c = true ∧ ∃ h, h < F.length ∧ f ≤ h ∧ fPa F h = g ∧ dsc F h (lfC F c) := by
  unfold gB
  rw [Bool.and_eq_true, List.any_eq_true]
  constructor
  · rintro ⟨a, h, h1, h2⟩
    exact ⟨a, h, List.mem_range.mp h1, of_decide_eq_true h2⟩
  · rintro ⟨a, h, h1, h2⟩
    exact ⟨a, h, List.mem_range.mpr h1, decide_eq_true h2⟩
theorem dcF_len (n : Nat) : ∀ i, (dcF n i).length = i + 1 := by
  intro i
  induction i with
  | zero => rfl
  | succ i ih => show (dcF n i).length + 1 = _; rw [ih]
theorem nd10_lt (n : Nat) : nd10 n < 20 := by
  unfold nd10
  cases h : (List.range 20).filter (fun j => decide (n / 10 ^ j ≤ 9)) with
  | nil => decide
  | cons a l =>
    have : a ∈ (List.range 20).filter (fun j => decide (n / 10 ^ j ≤ 9)) := by rw [h]; exact List.mem_cons_self ..
    exact List.mem_range.mp (List.mem_filter.mp this).1
theorem vlB_len {ty : Nat} {v : PV} (h : okPv ty v) : (vlB ty v).length ≤ 1022 := by
  unfold vlB
  by_cases c3 : ty = 3
  · rw [if_pos c3]
    have hl := (h.1 c3).1.1
    have key : ∀ t : List Int32, ((t.map (fun v => qt1 (uI v))).flatten).length ≤ 4 * t.length := by
      intro t
      induction t with
      | nil => exact Nat.le_refl _
      | cons a t ih =>
        rw [List.map_cons, List.flatten_cons, List.length_append, List.length_cons]
        have := qt1_len (uI a)
        omega
    unfold qtB
    rw [List.length_cons, List.length_append]
    have := key v.2
    show _ + 1 + 1 ≤ 1022
    omega
  · rw [if_neg c3]
    by_cases c0 : ty = 0
    · rw [if_pos c0]
      split
      · decide
      · decide
    · rw [if_neg c0]
      unfold decB
      rw [List.length_append, dcF_len]
      have := nd10_lt v.1.toInt.natAbs
      split
      · show 1 + _ ≤ _; omega
      · show 0 + _ ≤ _; omega
theorem tlO_len {tG : Int32 → (Nat → List SEn) → List Nat} {M : Nat} (hw : WfS F) (hM : 1030 ≤ M) (hf : f < F.length) (J : JG F W S (nI f)) (D : GdS F W S) (hgd : gdL F W f ≠ []) (hG : fTy F f = 4 → (tG (nI f) S).length ≤ 2 + M * smC (uB F W f) (dlt (rF F f) S) (ncol F)) : (tlO tG vlB F f (gdc F W f) S).length ≤ 2 + M * smC (uB F W f) (dlt (rF F f) S) (ncol F) ∧ 1 ≤ smC (uB F W f) (dlt (rF F f) S) (ncol F) := by
  obtain ⟨g1, g2, g3⟩ := gdc_ok hgd
  have ic := (inG_f hf hw.1).mpr g3
  obtain ⟨n1, n2, n3⟩ := J.1 _ g1 g2 ic
  have ps : 1 ≤ smC (uB F W f) (dlt (rF F f) S) (ncol F) := smC_pos _ g1 (uB_iff.mpr ⟨g2, g3⟩) (by have := rst_len (r := rF F f) n1; show 1 ≤ (S (gdc F W f)).length - _; omega)
  refine ⟨?_, ps⟩
  unfold tlO
  by_cases ht : fTy F f = 4
  · rw [if_pos ht]; exact hG ht
  · rw [if_neg ht]
    obtain ⟨lc, -⟩ := leaf_col hw hf ht g1 g3
    have pos := List.length_pos_iff.mpr n1
    have mem : (S (gdc F W f)).getD 0 en0 ∈ S (gdc F W f) := by rw [en_at pos]; exact List.getElem_mem pos
    obtain ⟨⟨-, -, r2, r3, -⟩, r4⟩ := (D _ g1 g2).2 _ mem
    rw [r4] at r2 r3
    have md : mdC F (gdc F W f) = dG F (nI f) := by unfold mdC; rw [lc]
    have n3 : dG F (nI f) ≤ ((S (gdc F W f)).getD 0 en0).2.2.1 := n3
    have := vlB_len (r3 (by omega))
    have m1 : M * 1 ≤ M * smC (uB F W f) (dlt (rF F f) S) (ncol F) := Nat.mul_le_mul_left _ ps
    omega
theorem tlR_len {tG : Int32 → (Nat → List SEn) → List Nat} {M : Nat} (hw : WfS F) (hM : 1030 ≤ M) (hf : f < F.length) (hk : fKd F f = 2) (hgd : gdL F W f ≠ []) (hG : ∀ S, fTy F f = 4 → JG F W S (nI f) → GdS F W S → (tG (nI f) S).length ≤ 2 + M * smC (uB F W f) (dlt (rF F f) S) (ncol F)) : ∀ d S, JG F W S (nI f) → GdS F W S → (tlR tG vlB F f (gdc F W f) d S).length ≤ (M + 3) * smC (uB F W f) (dlt (rgF F (fPa F f)) S) (ncol F) := by
  obtain ⟨g1, g2, g3⟩ := gdc_ok hgd
  have er := rg_f hw hf
  intro d
  induction d with
  | zero =>
    intro S J D
    obtain ⟨a, b⟩ := tlO_len (M := M) hw hM hf J D hgd (fun ht => hG S ht J D)
    have le : smC (uB F W f) (dlt (rF F f) S) (ncol F) ≤ smC (uB F W f) (dlt (rgF F (fPa F f)) S) (ncol F) := by
      refine smC_le _ (fun c hc hu => ⟨hu, ?_⟩)
      obtain ⟨wc, dc⟩ := uB_iff.mp hu
      have nx := J.nx hw D hf hk g1 g2 g3
      show (S c).length - (rst (rF F f) (S c)).length ≤ (S c).length - (rst (rgF F (fPa F f)) (S c)).length
      by_cases m : rst (rF F f) (S (gdc F W f)) ≠ [] ∧ hdR' (rst (rF F f) (S (gdc F W f))) = rF F f
      · obtain ⟨j1, j2⟩ := nx.1 m
        rw [j2 c hc wc dc]
        have : (rst (rgF F (fPa F f)) (rst (rF F f) (S c))).length < (rst (rF F f) (S c)).length := rst_len (r := rgF F (fPa F f)) (j1.1 c hc wc ((inG_f hf hw.1).mpr dc)).1
        omega
      · rw [nx.2 m c hc wc dc]; exact Nat.le_refl _
    have m1 := Nat.mul_le_mul_left (M + 3) le
    show (tlO tG vlB F f (gdc F W f) S).length ≤ _
    rw [Nat.add_mul] at m1
    omega
  | succ d ih =>
    intro S J D
    obtain ⟨a, b⟩ := tlO_len (M := M) hw hM hf J D hgd (fun ht => hG S ht J D)
    have nx := J.nx hw D hf hk g1 g2 g3
    show (tlO tG vlB F f (gdc F W f) S ++ (if rst (rF F f) (S (gdc F W f)) ≠ [] ∧ hdR' (rst (rF F f) (S (gdc F W f))) = rF F f then 44 :: tlR tG vlB F f (gdc F W f) d (fun c => rst (rF F f) (S c)) else [])).length ≤ _
    rw [List.length_append]
    by_cases m : rst (rF F f) (S (gdc F W f)) ≠ [] ∧ hdR' (rst (rF F f) (S (gdc F W f))) = rF F f
    · obtain ⟨j1, j2⟩ := nx.1 m
      rw [if_pos m, List.length_cons]
      have i := ih _ j1 (D.rest _)
      have ad : smC (uB F W f) (dlt (rF F f) S) (ncol F) + smC (uB F W f) (dlt (rgF F (fPa F f)) (fun c => rst (rF F f) (S c))) (ncol F) ≤ smC (uB F W f) (dlt (rgF F (fPa F f)) S) (ncol F) := by
        refine smC_add _ (fun c hc hu => ?_)
        obtain ⟨wc, dc⟩ := uB_iff.mp hu
        show (S c).length - (rst (rF F f) (S c)).length + ((rst (rF F f) (S c)).length - (rst (rgF F (fPa F f)) (rst (rF F f) (S c))).length) ≤ (S c).length - (rst (rgF F (fPa F f)) (S c)).length
        rw [j2 c hc wc dc]
        have n1 := (J.1 c hc wc ((inG_f hf hw.1).mpr dc)).1
        have l1 := rst_len (r := rF F f) n1
        have l2 : (rst (rgF F (fPa F f)) (rst (rF F f) (S c))).length < (rst (rF F f) (S c)).length := rst_len (r := rgF F (fPa F f)) (j1.1 c hc wc ((inG_f hf hw.1).mpr dc)).1
        omega
      have m1 := Nat.mul_le_mul_left (M + 3) ad
      rw [Nat.mul_add, Nat.add_mul M 3 (smC (uB F W f) (dlt (rF F f) S) (ncol F))] at m1
      omega
    · rw [if_neg m]
      have le : smC (uB F W f) (dlt (rF F f) S) (ncol F) ≤ smC (uB F W f) (dlt (rgF F (fPa F f)) S) (ncol F) := by
        refine smC_le _ (fun c hc hu => ⟨hu, ?_⟩)
        obtain ⟨wc, dc⟩ := uB_iff.mp hu
        show (S c).length - (rst (rF F f) (S c)).length ≤ (S c).length - (rst (rgF F (fPa F f)) (S c)).length
        rw [nx.2 m c hc wc dc]; exact Nat.le_refl _
      have m1 := Nat.mul_le_mul_left (M + 3) le
      rw [Nat.add_mul] at m1
      show _ + 0 ≤ _
      omega
theorem tlF_len {tG : Int32 → (Nat → List SEn) → List Nat} {M : Nat} (hw : WfS F) (hM : 1030 ≤ M) (J : JG F W S g) (D : GdS F W S) (hG : ∀ f S, f < F.length → fTy F f = 4 → JG F W S (nI f) → GdS F W S → (tG (nI f) S).length ≤ 2 + M * smC (uB F W f) (dlt (rF F f) S) (ncol F)) : ∀ d f sm, f + d = F.length → (tlF tG vlB F W g S d f sm).length ≤ (M + 23) * smC (gB F W g f) (dlt (rgF F g) S) (ncol F) := by
  intro d
  induction d with
  | zero => intro f sm _; exact Nat.zero_le _
  | succ d ih =>
    intro f sm h
    have hf : f < F.length := by omega
    have un : tlF tG vlB F W g S (d + 1) f sm = if fPa F f ≠ g ∨ gdL F W f = [] ∨ hdD (S (gdc F W f)) < dG F (nI f) then tlF tG vlB F W g S d (f + 1) sm else (if sm then [44] else []) ++ tB (fNm F f) ++ [58] ++ (if fKd F f = 2 then 91 :: (tlR tG vlB F f (gdc F W f) (S (gdc F W f)).length S ++ [93]) else tlO tG vlB F f (gdc F W f) S) ++ tlF tG vlB F W g S d (f + 1) true := rfl
    rw [un]
    by_cases hs : fPa F f ≠ g ∨ gdL F W f = [] ∨ hdD (S (gdc F W f)) < dG F (nI f)
    · rw [if_pos hs]
      refine Nat.le_trans (ih (f + 1) sm (by omega)) (Nat.mul_le_mul_left _ (smC_le _ (fun c hc hu => ⟨?_, Nat.le_refl _⟩)))
      obtain ⟨a, h, h1, h2, h3⟩ := gB_iff.mp hu
      exact gB_iff.mpr ⟨a, h, h1, by omega, h3⟩
    · rw [if_neg hs]
      have cg : fPa F f = g := Classical.byContradiction (fun z => hs (Or.inl z))
      have hgd : gdL F W f ≠ [] := fun z => hs (Or.inr (Or.inl z))
      have hp : dG F (nI f) ≤ hdD (S (gdc F W f)) := Nat.not_lt.mp (fun z => hs (Or.inr (Or.inr z)))
      obtain ⟨g1, g2, g3⟩ := gdc_ok hgd
      have Jf := J.kid hw hf cg g1 g2 g3 hp
      have er := rg_f hw hf
      have n16 := (hw.2.2.2.1 f hf).2.2.2.2
      have tl : (tB (fNm F f)).length = (fNm F f).length := List.length_map ..
      have i := ih (f + 1) true (by omega)
      have two : smC (uB F W f) (dlt (rgF F g) S) (ncol F) + smC (gB F W g (f + 1)) (dlt (rgF F g) S) (ncol F) ≤ smC (gB F W g f) (dlt (rgF F g) S) (ncol F) := by
        refine smC_two _ (fun c hc hu => ?_) (fun c hc hu => ?_) (fun c hc hu hv => ?_)
        · obtain ⟨wc, dc⟩ := uB_iff.mp hu
          exact gB_iff.mpr ⟨wc, f, hf, Nat.le_refl _, cg, dc⟩
        · obtain ⟨a, h, h1, h2, h3⟩ := gB_iff.mp hu
          exact gB_iff.mpr ⟨a, h, h1, by omega, h3⟩
        · obtain ⟨wc, dc⟩ := uB_iff.mp hu
          obtain ⟨a, h, h1, h2, h3, h4⟩ := gB_iff.mp hv
          have := kid_one hw hf h1 (lfC_ok hc).1 cg h3 dc h4
          omega
      have ps : 1 ≤ smC (uB F W f) (dlt (rgF F g) S) (ncol F) := by
        refine smC_pos _ g1 (uB_iff.mpr ⟨g2, g3⟩) ?_
        have := rst_len (r := rgF F g) (Jf.1 _ g1 g2 ((inG_f hf hw.1).mpr g3)).1
        show 1 ≤ (S (gdc F W f)).length - _
        omega
      have mid : (if fKd F f = 2 then 91 :: (tlR tG vlB F f (gdc F W f) (S (gdc F W f)).length S ++ [93]) else tlO tG vlB F f (gdc F W f) S).length ≤ 2 + (M + 3) * smC (uB F W f) (dlt (rgF F g) S) (ncol F) := by
        by_cases hk : fKd F f = 2
        · rw [if_pos hk, List.length_cons, List.length_append]
          have := tlR_len (M := M) hw hM hf hk hgd (fun S ht J D => hG f S hf ht J D) (S (gdc F W f)).length S Jf D
          rw [cg] at this
          show _ + 1 + 1 ≤ _
          omega
        · rw [if_neg hk]
          have w0 : wRep (fKd F) f = 0 := if_neg hk
          obtain ⟨a, b⟩ := tlO_len (M := M) (tG := tG) hw hM hf Jf D hgd (fun ht => hG f S hf ht Jf D)
          rw [cg] at er
          rw [show rF F f = rgF F g by omega] at a
          rw [Nat.add_mul]
          omega
      have m1 := Nat.mul_le_mul_left (M + 23) two
      rw [Nat.mul_add, show M + 23 = M + 3 + 20 from rfl, Nat.add_mul (M + 3) 20 (smC (uB F W f) (dlt (rgF F g) S) (ncol F))] at m1
      have sl : (if sm then [44] else [] : List Nat).length ≤ 1 := by
        cases sm
        · exact Nat.zero_le _
        · exact Nat.le_refl _
      simp only [List.length_append]
      have l58 : ([58] : List Nat).length = 1 := rfl
      rw [show M + 23 = M + 3 + 20 from rfl] at i
      rw [show M + 23 = M + 3 + 20 from rfl]
      omega
theorem tlG_len (hw : WfS F) : ∀ D g S, JG F W S g → GdS F W S → (tlG vlB F W D g S).length ≤ 2 + (1030 + 23 * D) * smC (gB F W g 0) (dlt (rgF F g) S) (ncol F) := by
  intro D
  induction D with
  | zero => intro g S _ _; exact Nat.zero_le _
  | succ D ih =>
    intro g S J G
    show (123 :: (tlF (tlG vlB F W D) vlB F W g S F.length 0 false ++ [125])).length ≤ _
    rw [List.length_cons, List.length_append]
    have := tlF_len (tG := tlG vlB F W D) (M := 1030 + 23 * D) hw (by omega) J G (fun f S hf ht J' G' => ?_) F.length 0 false (Nat.zero_add _)
    · rw [show 1030 + 23 * (D + 1) = 1030 + 23 * D + 23 by omega]
      show _ + 1 + 1 ≤ _
      omega
    · refine Nat.le_trans (ih (nI f) S J' G') (Nat.add_le_add_left (Nat.mul_le_mul_left _ (smC_le _ (fun c hc hu => ⟨?_, Nat.le_refl _⟩))) _)
      obtain ⟨a, h, h1, h2, h3, h4⟩ := gB_iff.mp hu
      refine uB_iff.mpr ⟨a, ?_⟩
      have h128 := hw.1
      rcases hw.2.2.1.2 h h1 with z | ⟨v, v1, v2⟩
      · rw [z] at h3; exact absurd h3.symm (nI_nm1 (by omega))
      · rw [v2] at h3
        have := nI_inj (by omega) (by omega) h3
        subst this
        exact dsc_trans hw (dsc_in hw h1 v1 v2 (dsc_self hw hf)) _ (lfC_ok hc).1 h4
end
