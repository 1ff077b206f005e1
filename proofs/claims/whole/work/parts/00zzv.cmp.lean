/-! texts against texts: what is in common, which comes first -/
def cpl : List Int32 → List Int32 → Nat
  | a :: s, b :: t => if a = b then cpl s t + 1 else 0
  | _, _ => 0
theorem cpl_le : ∀ s t, cpl s t ≤ s.length ∧ cpl s t ≤ t.length := by
  intro s
  induction s with
  | nil => intro t; exact ⟨Nat.zero_le _, Nat.zero_le _⟩
  | cons a s ih =>
    intro t
    cases t with
    | nil => exact ⟨Nat.zero_le _, Nat.zero_le _⟩
    | cons b t =>
      show (if a = b then cpl s t + 1 else 0) ≤ _ ∧ (if a = b then cpl s t + 1 else 0) ≤ _
      have := ih t
      rw [List.length_cons, List.length_cons]
      split <;> omega
theorem cpl_eq : ∀ s t i, i < cpl s t → s.getD i 0 = t.getD i 0 := by
  intro s
  induction s with
  | nil => intro t i h; exact absurd h (Nat.not_lt_zero _)
  | cons a s ih =>
    intro t i h
    cases t with
    | nil => exact absurd h (Nat.not_lt_zero _)
    | cons b t =>
      have h : i < (if a = b then cpl s t + 1 else 0) := h
      split at h
      · rename_i e
        cases i with
        | zero => exact e
        | succ i => exact ih t i (by omega)
      · exact absurd h (Nat.not_lt_zero _)
theorem cpl_ne : ∀ s t, cpl s t < s.length → cpl s t < t.length → s.getD (cpl s t) 0 ≠ t.getD (cpl s t) 0 := by
  intro s
  induction s with
  | nil => intro t h; exact absurd h (Nat.not_lt_zero _)
  | cons a s ih =>
    intro t h1 h2
    cases t with
    | nil => exact absurd h2 (Nat.not_lt_zero _)
    | cons b t =>
      by_cases e : a = b
      · have ec : cpl (a :: s) (b :: t) = cpl s t + 1 := by show (if a = b then _ else _) = _; rw [if_pos e]
        rw [ec] at h1 h2 ⊢
        rw [List.length_cons] at h1 h2
        exact ih t (by omega) (by omega)
      · have ec : cpl (a :: s) (b :: t) = 0 := by show (if a = b then _ else _) = _; rw [if_neg e]
        rw [ec]
        exact e
/-- the place where two texts part is one -/
theorem cpl_is {s t : List Int32} {c : Nat} (h1 : c ≤ s.length) (h2 : c ≤ t.length) (h3 : ∀ i, i < c → s.getD i 0 = t.getD i 0) (h4 : c = s.length ∨ c = t.length ∨ s.getD c 0 ≠ t.getD c 0) : c = cpl s t := by
  have l := cpl_le s t
  rcases Nat.lt_trichotomy c (cpl s t) with z | z | z
  · exact absurd (cpl_eq s t c z) (by rcases h4 with w | w | w; omega; omega; exact w)
  · exact z
  · exact absurd (h3 _ z) (cpl_ne s t (by omega) (by omega))
theorem cpl_full {s t : List Int32} (h : cpl s t = s.length) (h2 : s.length = t.length) : s = t := by
  apply List.ext_getElem h2
  intro i a b
  have := cpl_eq s t i (by omega)
  rw [List.getD_eq_getElem?_getD, List.getElem?_eq_getElem a, List.getD_eq_getElem?_getD, List.getElem?_eq_getElem b] at this
  exact this
theorem cpl_self (s : List Int32) : cpl s s = s.length := (cpl_is (Nat.le_refl _) (Nat.le_refl _) (fun _ _ => rfl) (Or.inl rfl)).symm
def cmpT (s t : List Int32) : Int32 := if cpl s t < s.length ∧ cpl s t < t.length then s.getD (cpl s t) 0 - t.getD (cpl s t) 0 else nI s.length - nI t.length
def cmpV (ty : Nat) (p q : PV) : Int32 := if ty = 3 then cmpT p.2 q.2 else if p.1 < q.1 then -1 else if q.1 < p.1 then 1 else 0
def kv (ty : Nat) (p : PV) : PV := if ty = 3 then (0, p.2) else (p.1, [])
theorem by_sub {a b : Int32} (ha : 0 ≤ a ∧ a ≤ 255) (hb : 0 ≤ b ∧ b ≤ 255) (h : a ≠ b) : a - b ≠ 0 := by
  intro z
  apply h
  have := congrArg (· + b) z
  simp only [Int32.sub_add_cancel, Int32.zero_add] at this
  exact this
theorem sg_in2 {a b : Int32} (ha : 0 ≤ a ∧ a ≤ 255) (hb : 0 ≤ b ∧ b ≤ 255) (h : a.toInt8.toInt32 = b.toInt8.toInt32) : a = b := by
  have e : ∀ n, n < 256 → (nI n).toInt8.toInt32 &&& 255 = nI n := by decide +kernel
  have ea := e _ (uI_by ha)
  have eb := e _ (uI_by hb)
  rw [nI_uI] at ea eb
  rw [← ea, ← eb, h]
theorem cmpT_0 {s t : List Int32} (hs : okT s) (ht : okT t) : cmpT s t = 0 ↔ s = t := by
  constructor
  · intro h
    unfold cmpT at h
    split at h
    · rename_i c
      exact absurd h (by_sub (hs.2 _ c.1) (ht.2 _ c.2) (cpl_ne s t c.1 c.2))
    · rename_i c
      have l := cpl_le s t
      have hs1 := hs.1
      have ht1 := ht.1
      have e : s.length = t.length := by
        have := congrArg (· + nI t.length) h
        simp only [Int32.sub_add_cancel, Int32.zero_add] at this
        have := congrArg uI this
        rw [uI_nI (by omega), uI_nI (by omega)] at this
        exact this
      exact cpl_full (by omega) e
  · intro e
    subst e
    unfold cmpT
    rw [cpl_self, if_neg (fun z => absurd z.1 (Nat.lt_irrefl _)), Int32.sub_self]
def okVv (ty : Nat) (p : PV) : Prop := ty = 3 → okT p.2
theorem cmpV_0 {ty : Nat} {p q : PV} (hp : okVv ty p) (hq : okVv ty q) : cmpV ty p q = 0 ↔ kv ty p = kv ty q := by
  unfold cmpV kv
  by_cases c : ty = 3
  · rw [if_pos c, if_pos c, if_pos c, cmpT_0 (hp c) (hq c)]
    constructor
    · intro h; rw [h]
    · intro h; exact (Prod.mk.inj h).2
  · rw [if_neg c, if_neg c, if_neg c]
    constructor
    · intro h
      split at h
      · exact absurd h (by decide)
      · rename_i h1
        split at h
        · exact absurd h (by decide)
        · rename_i h2
          have : p.1 = q.1 := by
            apply Int64.toInt_inj.mp
            rw [Int64.lt_iff_toInt_lt] at h1 h2
            omega
          rw [this]
    · intro h
      rw [(Prod.mk.inj h).1, if_neg (Int64.lt_irrefl), if_neg (Int64.lt_irrefl)]
/-- the class: what two texts have in common -/
theorem rf_rd {x : St} {r a j : Nat} {t : List Int32} (h2 : fN x r < 2 ^ 30) (h4 : a + t.length ≤ fN x r) (h5 : ∀ j, j < t.length → fA x r (a + j) = (t.getD j 0).toInt8.toInt32) (hj : j < t.length) : rA x r (nI a + nI j) = (t.getD j 0).toInt8.toInt32 ∧ vp_in (nI a + nI j) (fN x r) := by
  rw [nI_add, rA_nI (by omega), h5 j hj]
  exact ⟨rfl, vp_in_nI (by omega) (by omega)⟩
theorem c_inCommon {post : Int32 → St → Prop} {x : St} {r : Nat} {v w : Int64} {p q : PV} (hv : RfC x r 3 v p) (hw : RfC x r 3 w q) (k : post (nI (cpl p.2 q.2)) x) : wp_V_inCommon post r v w x := by
  obtain ⟨g1, g2, a, rfl, g4, g5⟩ := hv.2 rfl
  obtain ⟨d1, -, b, rfl, d4, d5⟩ := hw.2 rfl
  have l1 := g1.1
  have l2 := d1.1
  have e1 := ref_pl l1 (show a < 2 ^ 31 by omega)
  have e2 := ref_pl l2 (show b < 2 ^ 31 by omega)
  have m1 : (lN (256 * a + p.2.length)) &&& 255 = lN p.2.length := by
    rw [show (255 : Int64) = lN (2 ^ 8 - 1) from rfl, wb_mask (k := 8) (by omega) (by decide)]; congr 1; omega
  have m2 : (lN (256 * b + q.2.length)) &&& 255 = lN q.2.length := by
    rw [show (255 : Int64) = lN (2 ^ 8 - 1) from rfl, wb_mask (k := 8) (by omega) (by decide)]; congr 1; omega
  have em : ((if (lN q.2.length) < (lN p.2.length) then (lN q.2.length) else (lN p.2.length)) : Int64).toInt32 = nI (min p.2.length q.2.length) := by
    by_cases c : q.2.length < p.2.length
    · rw [if_pos ((lN_lt (by omega) (by omega)).mpr c), lN_i, Nat.min_eq_right (by omega)]
    · rw [if_neg (fun z => c ((lN_lt (by omega) (by omega)).mp z)), lN_i, Nat.min_eq_left (by omega)]
  unfold wp_V_inCommon
  rw [e1, e2, m1, m2, em]
  refine nm_e (nm_e (nm_e ?_))
  refine lp_V_inCommon_33 (fun l0 l1 l2 l3 l4 l5 l6 y => r = l0 ∧ nI (min p.2.length q.2.length) = l3 ∧ nI a = l4 ∧ nI b = l5 ∧ x = y ∧ ∃ c, nI c = l6 ∧ c ≤ p.2.length ∧ c ≤ q.2.length ∧ ∀ i, i < c → p.2.getD i 0 = q.2.getD i 0) (fun _ _ _ _ _ _ l6 _ => 256 - l6.toNatClampNeg) ?_ _ _ _ _ _ _ _ _ ⟨rfl, rfl, rfl, rfl, rfl, 0, rfl, Nat.zero_le _, Nat.zero_le _, fun i hi => absurd hi (Nat.not_lt_zero _)⟩
  rintro Q l0 l1 l2 l3 l4 l5 l6 y ⟨rfl, rfl, rfl, rfl, rfl, c, rfl, c1, c2, c3⟩ ih
  have out : (c = p.2.length ∨ c = q.2.length ∨ p.2.getD c 0 ≠ q.2.getD c 0) → j_V_inCommon_63 post r l1 l2 (nI (min p.2.length q.2.length)) (nI a) (nI b) (nI c) x := fun h => by
    unfold j_V_inCommon_63
    rw [cpl_is c1 c2 c3 h]
    exact k
  unfold j_V_inCommon_33
  by_cases cc : c < p.2.length ∧ c < q.2.length
  · have r1 := rf_rd g2 g4 g5 cc.1
    have r2 := rf_rd g2 d4 d5 cc.2
    refine br_f (by (first | omega | (simp (disch := omega) only [Int32.le_iff_toInt_le, Int32.lt_iff_toInt_lt, z_eq, z_in, nI_toInt, z_cl, z_m1, z_sg, z_255, Int32.reduceToInt] <;> omega) | (simp only [Int32.le_iff_toInt_le, Int32.lt_iff_toInt_lt, z_eq, z_in, z_add, z_sub, z_mul, z_neg, z_nI, z_cl, z_sg, z_255, z_lit, Int32.reduceToInt] <;> omega))) ⟨r1.2, r2.2, ?_⟩
    rw [r1.1, r2.1]
    by_cases e : p.2.getD c 0 = q.2.getD c 0
    · refine bn_t (by rw [e]) ?_
      rw [nI_1]
      refine ih _ _ _ _ _ _ _ _ ⟨rfl, rfl, rfl, rfl, rfl, c + 1, rfl, by omega, by omega, fun i hi => ?_⟩ (by rw [nI_clamp (by omega), nI_clamp (by omega)]; omega)
      by_cases z : i = c
      · rw [z]; exact e
      · exact c3 i (by omega)
    · exact bn_f (fun z => e (sg_in2 (g1.2 _ cc.1) (d1.2 _ cc.2) z)) (out (Or.inr (Or.inr e)))
  · exact br_t (by (first | omega | (simp (disch := omega) only [Int32.le_iff_toInt_le, Int32.lt_iff_toInt_lt, z_eq, z_in, nI_toInt, z_cl, z_m1, z_sg, z_255, Int32.reduceToInt] <;> omega) | (simp only [Int32.le_iff_toInt_le, Int32.lt_iff_toInt_lt, z_eq, z_in, z_add, z_sub, z_mul, z_neg, z_nI, z_cl, z_sg, z_255, z_lit, Int32.reduceToInt] <;> omega))) (out (by omega))
/-- the class: which value comes first -/
theorem c_compare {post : Int32 → St → Prop} {x : St} {r ty : Nat} {v w : Int64} {p q : PV} (hty : ty < 4) (hv : RfC x r ty v p) (hw : RfC x r ty w q) (k : post (cmpV ty p q) x) : wp_V_compareValues post (nI ty) r v r w x := by
  unfold wp_V_compareValues
  by_cases c3 : ty = 3
  · subst c3
    refine br_t rfl ?_
    obtain ⟨g1, g2, a, rfl, g4, g5⟩ := hv.2 rfl
    obtain ⟨d1, -, b, rfl, d4, d5⟩ := hw.2 rfl
    have l1 := g1.1
    have l2 := d1.1
    rw [ref_pl l1 (show a < 2 ^ 31 by omega), ref_pl l2 (show b < 2 ^ 31 by omega), ref_sz l1 (show a < 2 ^ 31 by omega), ref_sz l2 (show b < 2 ^ 31 by omega)]
    refine nm_e (nm_e (nm_e (nm_e (nm_r (e' := nI (min p.2.length q.2.length)) ?_ ?_))))
    · by_cases c : q.2.length < p.2.length
      · rw [if_pos (by (first | omega | (simp (disch := omega) only [Int32.le_iff_toInt_le, Int32.lt_iff_toInt_lt, z_eq, z_in, nI_toInt, z_cl, z_m1, z_sg, z_255, Int32.reduceToInt] <;> omega) | (simp only [Int32.le_iff_toInt_le, Int32.lt_iff_toInt_lt, z_eq, z_in, z_add, z_sub, z_mul, z_neg, z_nI, z_cl, z_sg, z_255, z_lit, Int32.reduceToInt] <;> omega))), Nat.min_eq_right (by omega)]
      · rw [if_neg (by (first | omega | (simp (disch := omega) only [Int32.le_iff_toInt_le, Int32.lt_iff_toInt_lt, z_eq, z_in, nI_toInt, z_cl, z_m1, z_sg, z_255, Int32.reduceToInt] <;> omega) | (simp only [Int32.le_iff_toInt_le, Int32.lt_iff_toInt_lt, z_eq, z_in, z_add, z_sub, z_mul, z_neg, z_nI, z_cl, z_sg, z_255, z_lit, Int32.reduceToInt] <;> omega))), Nat.min_eq_left (by omega)]
    refine lp_V_compareValues_56 (fun l0 l1 l2 l3 l4 l5 l6 l7 l8 l9 l10 y => r = l1 ∧ r = l3 ∧ nI p.2.length = l5 ∧ nI q.2.length = l6 ∧ nI a = l7 ∧ nI b = l8 ∧ nI (min p.2.length q.2.length) = l9 ∧ x = y ∧ ∃ c, nI c = l10 ∧ c ≤ p.2.length ∧ c ≤ q.2.length ∧ ∀ i, i < c → p.2.getD i 0 = q.2.getD i 0) (fun _ _ _ _ _ _ _ _ _ _ l10 _ => 256 - l10.toNatClampNeg) ?_ _ _ _ _ _ _ _ _ _ _ _ _ ⟨rfl, rfl, rfl, rfl, rfl, rfl, rfl, rfl, 0, rfl, Nat.zero_le _, Nat.zero_le _, fun i hi => absurd hi (Nat.not_lt_zero _)⟩
    rintro Q l0 l1 l2 l3 l4 l5 l6 l7 l8 l9 l10 y ⟨rfl, rfl, rfl, rfl, rfl, rfl, rfl, rfl, c, rfl, c1, c2, c3⟩ ih
    have ek : cmpV 3 p q = cmpT p.2 q.2 := rfl
    rw [ek] at k
    unfold cmpT at k
    unfold j_V_compareValues_56
    by_cases cc : c < p.2.length ∧ c < q.2.length
    · have r1 := rf_rd g2 g4 g5 cc.1
      have r2 := rf_rd g2 d4 d5 cc.2
      refine br_f (by (first | omega | (simp (disch := omega) only [Int32.le_iff_toInt_le, Int32.lt_iff_toInt_lt, z_eq, z_in, nI_toInt, z_cl, z_m1, z_sg, z_255, Int32.reduceToInt] <;> omega) | (simp only [Int32.le_iff_toInt_le, Int32.lt_iff_toInt_lt, z_eq, z_in, z_add, z_sub, z_mul, z_neg, z_nI, z_cl, z_sg, z_255, z_lit, Int32.reduceToInt] <;> omega))) ⟨r1.2, r2.2, ?_⟩
      rw [r1.1, r2.1]
      by_cases e : p.2.getD c 0 = q.2.getD c 0
      · refine br_t (by rw [e]) ?_
        rw [nI_1]
        refine ih _ _ _ _ _ _ _ _ _ _ _ _ ⟨rfl, rfl, rfl, rfl, rfl, rfl, rfl, rfl, c + 1, rfl, by omega, by omega, fun i hi => ?_⟩ (by rw [nI_clamp (by omega), nI_clamp (by omega)]; omega)
        by_cases z : i = c
        · rw [z]; exact e
        · exact c3 i (by omega)
      · refine br_f (fun z => e (sg_in2 (g1.2 _ cc.1) (d1.2 _ cc.2) z)) ⟨r1.2, r2.2, ?_⟩
        have ec := cpl_is c1 c2 c3 (Or.inr (Or.inr e))
        rw [← ec, if_pos cc] at k
        have by1 : ∀ z : Int32, 0 ≤ z ∧ z ≤ 255 → z.toInt8.toInt32 &&& 255 = z := fun z hz => by
          have e : ∀ n, n < 256 → (nI n).toInt8.toInt32 &&& 255 = nI n := by decide +kernel
          have := e _ (uI_by hz)
          rw [nI_uI] at this
          exact this
        rw [by1 _ (g1.2 _ cc.1), by1 _ (d1.2 _ cc.2)]
        exact k
    · refine br_t (by (first | omega | (simp (disch := omega) only [Int32.le_iff_toInt_le, Int32.lt_iff_toInt_lt, z_eq, z_in, nI_toInt, z_cl, z_m1, z_sg, z_255, Int32.reduceToInt] <;> omega) | (simp only [Int32.le_iff_toInt_le, Int32.lt_iff_toInt_lt, z_eq, z_in, z_add, z_sub, z_mul, z_neg, z_nI, z_cl, z_sg, z_255, z_lit, Int32.reduceToInt] <;> omega))) ?_
      have ec := cpl_is c1 c2 c3 (by omega)
      rw [← ec, if_neg cc] at k
      exact k
  · refine br_f (by (first | omega | (simp (disch := omega) only [Int32.le_iff_toInt_le, Int32.lt_iff_toInt_lt, z_eq, z_in, nI_toInt, z_cl, z_m1, z_sg, z_255, Int32.reduceToInt] <;> omega) | (simp only [Int32.le_iff_toInt_le, Int32.lt_iff_toInt_lt, z_eq, z_in, z_add, z_sub, z_mul, z_neg, z_nI, z_cl, z_sg, z_255, z_lit, Int32.reduceToInt] <;> omega))) ?_
    rw [hv.1 c3, hw.1 c3]
    unfold cmpV at k
    rw [if_neg c3] at k
    unfold wp_JLong_compare
    by_cases c : p.1 < q.1
    · rw [if_pos c] at k
      exact br_f (fun z => by have := (lg_cmp_ge _ _).mp z; rw [Int64.le_iff_toInt_le] at this; rw [Int64.lt_iff_toInt_lt] at c; omega) k
    · rw [if_neg c] at k
      refine br_t ((lg_cmp_ge _ _).mpr (by rw [Int64.le_iff_toInt_le]; rw [Int64.lt_iff_toInt_lt] at c; omega)) ?_
      by_cases c2 : q.1 < p.1
      · rw [if_pos c2] at k
        exact bn_f (fun z => by rw [(lg_cmp_eq _ _).mp z] at c2; exact Int64.lt_irrefl c2) k
      · rw [if_neg c2] at k
        exact bn_t ((lg_cmp_eq _ _).mpr (Int64.toInt_inj.mp (by rw [Int64.lt_iff_toInt_lt] at c c2; omega))) k
