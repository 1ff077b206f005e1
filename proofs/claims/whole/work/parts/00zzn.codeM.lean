/-! the CODE of longs, and the model's -/
def df (V : Nat → Int64) (k : Nat) : Int64 := V (k + 1) - V k
def lsF (V : Nat → Int64) (a : Nat) : Nat → Int64
  | 0 => df V a
  | c + 1 => if df V (a + c) < lsF V a c then df V (a + c) else lsF V a c
def bl (u : Nat) : Nat := if u = 0 then 0 else u.log2 + 1
theorem bl_le {u w : Nat} : bl u ≤ w ↔ u < 2 ^ w := by
  unfold bl
  by_cases c : u = 0
  · rw [if_pos c, c]
    exact ⟨fun _ => Nat.pow_pos (by decide), fun _ => Nat.zero_le _⟩
  · rw [if_neg c, ← Nat.log2_lt c]
    exact Iff.rfl
def wdM (V : Nat → Int64) (l : Int64) (a : Nat) : Nat → Nat
  | 0 => 0
  | c + 1 => max (wdM V l a c) (bl (uL (df V (a + c) - l)))
/-- the WIDTH of a part -/
def wP (V : Nat → Int64) (l : Int64) (last p : Nat) : Nat := wdM V l p (min 16 (last - p))
theorem wdM_le {V : Nat → Int64} {l : Int64} {a : Nat} : ∀ c, wdM V l a c ≤ 64 := by
  intro c
  induction c with
  | zero => exact Nat.zero_le _
  | succ c ih =>
    have := bl_le.mpr (uL_lt (df V (a + c) - l))
    show max _ _ ≤ 64
    omega
theorem wP_le {V : Nat → Int64} {l : Int64} {last p : Nat} : wP V l last p ≤ 64 := wdM_le _
theorem wP_0 {V : Nat → Int64} {l : Int64} {last p : Nat} (h : last ≤ p) : wP V l last p = 0 := by
  unfold wP
  rw [show last - p = 0 by omega]
  rfl
def pS (V : Nat → Int64) (l : Int64) (last p w : Nat) : Nat → Nat := fun b => nbit (if p + b / w < last then uL (df V (p + b / w) - l) else 0) (b % w)
theorem pS_le (V : Nat → Int64) (l : Int64) (last p w b : Nat) : pS V l last p w b ≤ 1 := nbit_le _ _
def wdsF (V : Nat → Int64) (l : Int64) (last : Nat) : Nat → Nat → List Nat
  | 0, _ => []
  | q + 1, p => wP V l last p :: wdsF V l last q (p + 16)
def prtF (V : Nat → Int64) (l : Int64) (last : Nat) : Nat → Nat → List Nat
  | 0, _ => []
  | q + 1, p => packB (pS V l last p (wP V l last p)) (2 * wP V l last p) ++ prtF V l last q (p + 16)
theorem prtF_nil {V : Nat → Int64} {l : Int64} {last : Nat} : ∀ q p, last ≤ p → prtF V l last q p = [] := by
  intro q
  induction q with
  | zero => intro p _; rfl
  | succ q ih =>
    intro p h
    show packB _ (2 * wP V l last p) ++ prtF V l last q (p + 16) = []
    rw [wP_0 h, ih _ (by omega)]
    rfl
def zg (v : Int64) : Int64 := if v < 0 then -2 * v - 1 else 2 * v
def blkB (V : Nat → Int64) (a last : Nat) : List Nat := varB (uL (zg (lsF V a (last - a)))) ++ (wdsF V (lsF V a (last - a)) last 4 a ++ prtF V (lsF V a (last - a)) last 4 a)
def codF (V : Nat → Int64) (m : Nat) : Nat → Nat → List Nat
  | 0, _ => []
  | d + 1, a => if m ≤ a + 1 then [] else blkB V a (min (a + 64) (m - 1)) ++ codF V m d (a + 64)
def codeB (V : Nat → Int64) (m : Nat) : List Nat := varB m ++ ((if m = 0 then [] else varB (uL (zg (V 0)))) ++ codF V m m 0)
theorem wdsF_len {V : Nat → Int64} {l : Int64} {last : Nat} : ∀ q p, (wdsF V l last q p).length = q := by
  intro q
  induction q with
  | zero => intro p; rfl
  | succ q ih => intro p; show (wdsF V l last q (p + 16)).length + 1 = _; rw [ih]
theorem prtF_len {V : Nat → Int64} {l : Int64} {last : Nat} : ∀ q p, (prtF V l last q p).length ≤ 128 * q := by
  intro q
  induction q with
  | zero => intro p; exact Nat.le_refl _
  | succ q ih =>
    intro p
    show (packB _ (2 * wP V l last p) ++ prtF V l last q (p + 16)).length ≤ _
    rw [List.length_append, packB_len]
    have := ih (p + 16)
    have := @wP_le V l last p
    omega
theorem blkB_len {V : Nat → Int64} {a last : Nat} : (blkB V a last).length ≤ 526 := by
  unfold blkB
  rw [List.length_append, List.length_append, wdsF_len]
  have := varB_len (uL (zg (lsF V a (last - a))))
  have := @prtF_len V (lsF V a (last - a)) last 4 a
  omega
theorem codF_len {V : Nat → Int64} {m : Nat} : ∀ d a, (codF V m d a).length ≤ 526 * d := by
  intro d
  induction d with
  | zero => intro a; exact Nat.le_refl _
  | succ d ih =>
    intro a
    simp only [codF]
    split
    · exact Nat.zero_le _
    · rw [List.length_append]
      have := ih (a + 64)
      have := @blkB_len V a (min (a + 64) (m - 1))
      omega
theorem codeB_len {V : Nat → Int64} {m : Nat} : (codeB V m).length ≤ 20 + 526 * m := by
  unfold codeB
  rw [List.length_append, List.length_append]
  have := varB_len m
  have := @codF_len V m m 0
  split
  · simp; omega
  · have := varB_len (uL (zg (V 0)))
    omega
def LgM (x : St) (V : Nat → Int64) (m : Nat) : Prop := fI x 0 71 = nI m ∧ m ≤ 2000 ∧ fN x 43 = 2000 ∧ ∀ i, i < m → fL x 43 i = V i
theorem LgM.sh {x y : St} {V : Nat → Int64} {m : Nat} (h : LgM x V m) (f : FrSh x y) : LgM y V m := by
  unfold LgM
  rw [show fI y 0 71 = fI x 0 71 from f.1 0 71 (by decide), show fN y 43 = fN x 43 by show y.2.2.2.2.2 43 = _; rw [f.2.2.2.2.2], show fL y 43 = fL x 43 from f.2.2.2.2.1 43 (fun z => z)]
  exact h
theorem rL_nI {x : St} {o k : Nat} (h : k < 2 ^ 31) : rL x o (nI k) = fL x o k := by
  show x.2.2.2.2.1 o (nI k).toNatClampNeg = _
  rw [nI_clamp h]
theorem s_difference {post : Int64 → St → Prop} {x : St} {V : Nat → Int64} {m k : Nat} (h : LgM x V m) (hk : k + 1 < m) (p : post (df V k) x) : wp_Mod_difference post (nI k) x := by
  obtain ⟨h1, h2, h3, h4⟩ := h
  unfold wp_Mod_difference
  rw [nI_1, h3, rL_nI (by omega), rL_nI (by omega), h4 _ hk, h4 k (by omega)]
  exact ⟨vp_in_nI (by omega) (by decide), vp_in_nI (by omega) (by decide), p⟩
theorem s_zigzag {post : Int64 → St → Prop} {x : St} {v : Int64} (p : post (zg v) x) : wp_Mod_zigzag post v x := by
  unfold wp_Mod_zigzag
  unfold zg at p
  by_cases c : v < 0
  · rw [if_pos c] at p
    exact br_f (fun z => by have := (lg_cmp_ge _ _).mp z; exact absurd c (Int64.not_lt.mpr this)) p
  · rw [if_neg c] at p
    exact br_t ((lg_cmp_ge _ _).mpr (Int64.not_lt.mp c)) p
theorem ushr0 {v : Int64} {w : Nat} (hw : w < 64) : (v.toUInt64 >>> ((nI w).toInt64.toUInt64 &&& Int64.toUInt64 63)).toInt64 = 0 ↔ bl (uL v) ≤ w := by
  have e : (v.toUInt64 >>> ((nI w).toInt64.toUInt64 &&& Int64.toUInt64 63)).toInt64 = lN (uL v / 2 ^ w) := by
    have := wb_shr (n := uL v) (k := w) (uL_lt v) hw
    rw [lN_uL] at this
    exact this
  have hlt : uL v / 2 ^ w < 2 ^ 64 := Nat.lt_of_le_of_lt (Nat.div_le_self _ _) (uL_lt v)
  rw [e, lN0 hlt, bl_le]
  have p0 : 0 < 2 ^ w := Nat.pow_pos (by decide)
  rw [Nat.div_eq_zero_iff]
  omega
theorem s_widthOf {post : Int32 → St → Prop} {x : St} {V : Nat → Int64} {m last p : Nat} {l : Int64} (h : LgM x V m) (hl : last + 1 ≤ m) (hp : p ≤ 10000) (q : post (nI (wP V l last p)) x) : wp_Mod_widthOf post (nI p) (nI last) l x := by
  have hm := h.2.1
  refine lp_Mod_widthOf_6 (fun l1 l2 l3 l5 l6 y => nI p = l1 ∧ nI last = l2 ∧ l = l3 ∧ x = y ∧ ∃ c, nI (p + c) = l6 ∧ c ≤ min 16 (last - p) ∧ nI (wdM V l p c) = l5) (fun _ _ _ _ l6 _ => 20000 - l6.toNatClampNeg) ?_ _ _ _ _ _ _ ⟨rfl, rfl, rfl, rfl, 0, rfl, Nat.zero_le _, rfl⟩
  rintro Q l1 l2 l3 l5 l6 y ⟨rfl, rfl, rfl, rfl, c, rfl, c1, rfl⟩ ih
  have out : c = min 16 (last - p) → j_Mod_widthOf_56 post (nI p) (nI last) l (nI (wdM V l p c)) (nI (p + c)) x := by
    intro z
    unfold j_Mod_widthOf_56
    unfold wP at q
    rw [← z] at q
    exact q
  unfold j_Mod_widthOf_6
  rw [show (16 : Int32) = nI 16 from rfl, nI_add]
  by_cases d1 : c < 16
  · refine br_f (by (first | omega | (simp (disch := omega) only [Int32.le_iff_toInt_le, Int32.lt_iff_toInt_lt, z_eq, z_in, nI_toInt, z_cl, z_m1, z_sg, z_255, Int32.reduceToInt] <;> omega) | (simp only [Int32.le_iff_toInt_le, Int32.lt_iff_toInt_lt, z_eq, z_in, z_add, z_sub, z_mul, z_neg, z_nI, z_cl, z_sg, z_255, z_lit, Int32.reduceToInt] <;> omega))) ?_
    by_cases d2 : p + c < last
    · refine br_f (by (first | omega | (simp (disch := omega) only [Int32.le_iff_toInt_le, Int32.lt_iff_toInt_lt, z_eq, z_in, nI_toInt, z_cl, z_m1, z_sg, z_255, Int32.reduceToInt] <;> omega) | (simp only [Int32.le_iff_toInt_le, Int32.lt_iff_toInt_lt, z_eq, z_in, z_add, z_sub, z_mul, z_neg, z_nI, z_cl, z_sg, z_255, z_lit, Int32.reduceToInt] <;> omega))) ?_
      generalize hu : uL (df V (p + c) - l) = u
      have hw0 := wdM_le (V := V) (l := l) (a := p) c
      have hb := bl_le.mpr (hu ▸ uL_lt (df V (p + c) - l) : u < 2 ^ 64)
      refine lp_Mod_widthOf_21 (fun l1 l2 l3 l5 l6 y => nI p = l1 ∧ nI last = l2 ∧ l = l3 ∧ nI (p + c) = l6 ∧ x = y ∧ ∃ w, nI w = l5 ∧ wdM V l p c ≤ w ∧ w ≤ max (wdM V l p c) (bl u)) (fun _ _ _ l5 _ _ => 100 - l5.toNatClampNeg) ?_ _ _ _ _ _ _ ⟨rfl, rfl, rfl, rfl, rfl, _, rfl, Nat.le_refl _, by omega⟩
      rintro Q2 l1 l2 l3 l5 l6 y ⟨rfl, rfl, rfl, rfl, rfl, w, rfl, w1, w2⟩ ih2
      have out2 : w = max (wdM V l p c) (bl u) → j_Mod_widthOf_50 post Q (nI p) (nI last) l (nI w) (nI (p + c)) x := by
        intro z
        unfold j_Mod_widthOf_50
        rw [nI_1, z]
        refine ih _ _ _ _ _ _ ⟨rfl, rfl, rfl, rfl, c + 1, by rw [Nat.add_assoc], by omega, by show nI (max _ (bl (uL (df V (p + c) - l)))) = _; rw [hu]⟩ ?_
        rw [nI_clamp (by omega), nI_clamp (by omega)]
        omega
      unfold j_Mod_widthOf_21
      by_cases d3 : w < 64
      · refine br_f (by (first | omega | (simp (disch := omega) only [Int32.le_iff_toInt_le, Int32.lt_iff_toInt_lt, z_eq, z_in, nI_toInt, z_cl, z_m1, z_sg, z_255, Int32.reduceToInt] <;> omega) | (simp only [Int32.le_iff_toInt_le, Int32.lt_iff_toInt_lt, z_eq, z_in, z_add, z_sub, z_mul, z_neg, z_nI, z_cl, z_sg, z_255, z_lit, Int32.reduceToInt] <;> omega))) (s_difference h (by omega) ?_)
        by_cases d4 : bl u ≤ w
        · refine br_t ((lg_cmp_eq _ _).mpr ((ushr0 d3).mpr (by rw [hu]; exact d4))) (out2 (by omega))
        · refine br_f (fun z => d4 (by rw [← hu]; exact (ushr0 d3).mp ((lg_cmp_eq _ _).mp z))) ?_
          rw [nI_1]
          refine ih2 _ _ _ _ _ _ ⟨rfl, rfl, rfl, rfl, rfl, w + 1, rfl, by omega, by omega⟩ ?_
          rw [nI_clamp (by omega), nI_clamp (by omega)]
          omega
      · exact br_t (by (first | omega | (simp (disch := omega) only [Int32.le_iff_toInt_le, Int32.lt_iff_toInt_lt, z_eq, z_in, nI_toInt, z_cl, z_m1, z_sg, z_255, Int32.reduceToInt] <;> omega) | (simp only [Int32.le_iff_toInt_le, Int32.lt_iff_toInt_lt, z_eq, z_in, z_add, z_sub, z_mul, z_neg, z_nI, z_cl, z_sg, z_255, z_lit, Int32.reduceToInt] <;> omega))) (out2 (by omega))
    · exact br_t (by (first | omega | (simp (disch := omega) only [Int32.le_iff_toInt_le, Int32.lt_iff_toInt_lt, z_eq, z_in, nI_toInt, z_cl, z_m1, z_sg, z_255, Int32.reduceToInt] <;> omega) | (simp only [Int32.le_iff_toInt_le, Int32.lt_iff_toInt_lt, z_eq, z_in, z_add, z_sub, z_mul, z_neg, z_nI, z_cl, z_sg, z_255, z_lit, Int32.reduceToInt] <;> omega))) (out (by omega))
  · exact br_t (by (first | omega | (simp (disch := omega) only [Int32.le_iff_toInt_le, Int32.lt_iff_toInt_lt, z_eq, z_in, nI_toInt, z_cl, z_m1, z_sg, z_255, Int32.reduceToInt] <;> omega) | (simp only [Int32.le_iff_toInt_le, Int32.lt_iff_toInt_lt, z_eq, z_in, z_add, z_sub, z_mul, z_neg, z_nI, z_cl, z_sg, z_255, z_lit, Int32.reduceToInt] <;> omega))) (out (by omega))
theorem s_writePart {post : St → Prop} {x : St} {V : Nat → Int64} {m last p w : Nat} {l : Int64} {B : List Nat} (h : LgM x V m) (hl : last + 1 ≤ m) (hp : p ≤ 10000) (hw : w ≤ 64) (hS : Sh x B) (hB : B.length ≤ 2 ^ 28) (q : ∀ y, FrSh x y → Sh y (B ++ packB (pS V l last p w) (2 * w)) → post y) : wp_Mod_writePart post (nI p) (nI last) l (nI w) x := by
  have hm := h.2.1
  refine lp_Mod_writePart_3 (fun l1 l2 l3 l5 l6 y => nI p = l1 ∧ nI last = l2 ∧ l = l3 ∧ nI w = l5 ∧ ∃ j, nI (8 * j) = l6 ∧ j ≤ 2 * w ∧ FrSh x y ∧ Sh y (B ++ packB (pS V l last p w) j)) (fun _ _ _ _ l6 _ => 2000 - l6.toNatClampNeg) ?_ _ _ _ _ _ _ ⟨rfl, rfl, rfl, rfl, 0, rfl, Nat.zero_le _, Fg.refl x, by show Sh x (B ++ []); rw [List.append_nil]; exact hS⟩
  rintro Q l1 l2 l3 l5 l6 z ⟨rfl, rfl, rfl, rfl, j, rfl, j1, z1, z2⟩ ih
  have e16 : (16 : Int32) * nI w = nI (8 * (2 * w)) := by rw [show (16 : Int32) = nI 16 from rfl, nI_mul]; congr 1; omega
  unfold j_Mod_writePart_3
  rw [e16]
  have hlen : (B ++ packB (pS V l last p w) j).length ≤ 2 ^ 28 + 200 := by rw [List.length_append, packB_len]; omega
  by_cases cj : j < 2 * w
  · refine br_f (by (first | omega | (simp (disch := omega) only [Int32.le_iff_toInt_le, Int32.lt_iff_toInt_lt, z_eq, z_in, nI_toInt, z_cl, z_m1, z_sg, z_255, Int32.reduceToInt] <;> omega) | (simp only [Int32.le_iff_toInt_le, Int32.lt_iff_toInt_lt, z_eq, z_in, z_add, z_sub, z_mul, z_neg, z_nI, z_cl, z_sg, z_255, z_lit, Int32.reduceToInt] <;> omega))) ?_
    have hw0 : 0 < w := by omega
    refine lp_Mod_writePart_19 (fun l1 l2 l3 l5 l6 l7 l8 y' => nI p = l1 ∧ nI last = l2 ∧ l = l3 ∧ nI w = l5 ∧ nI (8 * j) = l6 ∧ z = y' ∧ ∃ i, nI i = l8 ∧ i ≤ 8 ∧ nI (sb (pS V l last p w) (8 * j) i) = l7) (fun _ _ _ _ _ _ l8 _ => 10 - l8.toNatClampNeg) ?_ _ _ _ _ _ _ _ _ ⟨rfl, rfl, rfl, rfl, rfl, rfl, 0, rfl, by decide, rfl⟩
    rintro Q2 l1 l2 l3 l5 l6 l7 l8 y' ⟨rfl, rfl, rfl, rfl, rfl, rfl, i, rfl, i1, rfl⟩ ih4
    have hz := h.sh z1
    unfold j_Mod_writePart_19 j_Mod_writePart_72
    by_cases ci : i < 8
    · have w0 : ¬ nI w = 0 := fun e => by have := (nI_eq (b := 0) (by omega) (by decide)).mp e; omega
      have ea : nI (8 * j) + nI i = nI (8 * j + i) := nI_add _ _
      have hb := sb_lt (a := 8 * j) (pS_le V l last p w) i
      have hb2 := sb_lt (a := 8 * j) (pS_le V l last p w) (i + 1)
      have p8 : 2 ^ (i + 1) ≤ 2 ^ 8 := Nat.pow_le_pow_right (by decide) (by omega)
      have hmm : (8 * j + i) % w < w := Nat.mod_lt _ hw0
      have hdv : (8 * j + i) / w ≤ 8 * j + i := Nat.div_le_self _ _
      have step : sb (pS V l last p w) (8 * j) (i + 1) = sb (pS V l last p w) (8 * j) i + pS V l last p w (8 * j + i) * 2 ^ i := rfl
      have next : ∀ v, nI (sb (pS V l last p w) (8 * j) (i + 1)) = v → Q2 (nI p) (nI last) l (nI w) (nI (8 * j)) v (nI i + 1) z := by
        intro v ev
        rw [nI_1]
        refine ih4 _ _ _ _ _ _ _ _ ⟨rfl, rfl, rfl, rfl, rfl, rfl, i + 1, rfl, by omega, ev⟩ ?_
        rw [nI_clamp (by omega), nI_clamp (by omega)]; omega
      refine br_f (by (first | omega | (simp (disch := omega) only [Int32.le_iff_toInt_le, Int32.lt_iff_toInt_lt, z_eq, z_in, nI_toInt, z_cl, z_m1, z_sg, z_255, Int32.reduceToInt] <;> omega) | (simp only [Int32.le_iff_toInt_le, Int32.lt_iff_toInt_lt, z_eq, z_in, z_add, z_sub, z_mul, z_neg, z_nI, z_cl, z_sg, z_255, z_lit, Int32.reduceToInt] <;> omega))) ⟨w0, ?_⟩
      rw [ea, pk_rem (a := 8 * j + i) (by omega) hw0 (by omega), pk_div (by omega) hw0 (by omega), nI_add]
      refine nm_e ?_
      by_cases cw : p + (8 * j + i) / w < last
      · refine br_f (by (first | omega | (simp (disch := omega) only [Int32.le_iff_toInt_le, Int32.lt_iff_toInt_lt, z_eq, z_in, nI_toInt, z_cl, z_m1, z_sg, z_255, Int32.reduceToInt] <;> omega) | (simp only [Int32.le_iff_toInt_le, Int32.lt_iff_toInt_lt, z_eq, z_in, z_add, z_sub, z_mul, z_neg, z_nI, z_cl, z_sg, z_255, z_lit, Int32.reduceToInt] <;> omega))) (s_difference hz (by omega) ⟨w0, nm_e (next _ ?_)⟩)
        have eb : (((df V (p + (8 * j + i) / w) - l).toUInt64 >>> ((nI ((8 * j + i) % w)).toInt64.toUInt64 &&& Int64.toUInt64 63)).toInt64 &&& 1).toInt32 = nI (nbit (uL (df V (p + (8 * j + i) / w) - l)) ((8 * j + i) % w)) := by
          have := wb_bit (n := uL (df V (p + (8 * j + i) / w) - l)) (k := (8 * j + i) % w) (uL_lt _) (by omega)
          rw [lN_uL] at this
          rw [this, lN_i]
          rfl
        rw [eb, pk_shlN _ i (s_l _ (by omega)) (by
          have : nbit (uL (df V (p + (8 * j + i) / w) - l)) ((8 * j + i) % w) * 2 ^ i ≤ 1 * 2 ^ i := Nat.mul_le_mul_right _ (nbit_le _ _)
          have : 2 ^ i ≤ 2 ^ 8 := Nat.pow_le_pow_right (by decide) (by omega)
          omega)]
        have es : pS V l last p w (8 * j + i) = nbit (uL (df V (p + (8 * j + i) / w) - l)) ((8 * j + i) % w) := by unfold pS; rw [if_pos cw]
        rw [step, es] at hb2 ⊢
        rw [nI_orA hb (by omega)]
      · refine br_t (by (first | omega | (simp (disch := omega) only [Int32.le_iff_toInt_le, Int32.lt_iff_toInt_lt, z_eq, z_in, nI_toInt, z_cl, z_m1, z_sg, z_255, Int32.reduceToInt] <;> omega) | (simp only [Int32.le_iff_toInt_le, Int32.lt_iff_toInt_lt, z_eq, z_in, z_add, z_sub, z_mul, z_neg, z_nI, z_cl, z_sg, z_255, z_lit, Int32.reduceToInt] <;> omega))) (next _ ?_)
        have es : pS V l last p w (8 * j + i) = 0 := by unfold pS; rw [if_neg cw]; unfold nbit; rw [Nat.zero_div]
        rw [step, es]
        congr 1
        omega
    · have ei : i = 8 := by omega
      subst ei
      have hb := sb_lt (a := 8 * j) (pS_le V l last p w) 8
      refine br_t (by decide) (s_put (b := sb (pS V l last p w) (8 * j) 8) z2 (by omega) (by omega) (by rw [nI_255, Nat.mod_eq_of_lt (by omega)]) (fun W w1 w2 => ?_))
      rw [show (8 : Int32) = nI 8 from rfl, nI_add]
      refine ih _ _ _ _ _ _ ⟨rfl, rfl, rfl, rfl, j + 1, by rw [Nat.mul_succ], by omega, z1.trans w1, ?_⟩ ?_
      · rw [packB_s, ← List.append_assoc]; exact w2
      · rw [nI_clamp (by omega), nI_clamp (by omega)]; omega
  · have ej : j = 2 * w := by omega
    rw [ej] at z2
    exact br_t (by (first | omega | (simp (disch := omega) only [Int32.le_iff_toInt_le, Int32.lt_iff_toInt_lt, z_eq, z_in, nI_toInt, z_cl, z_m1, z_sg, z_255, Int32.reduceToInt] <;> omega) | (simp only [Int32.le_iff_toInt_le, Int32.lt_iff_toInt_lt, z_eq, z_in, z_add, z_sub, z_mul, z_neg, z_nI, z_cl, z_sg, z_255, z_lit, Int32.reduceToInt] <;> omega))) (q z z1 z2)
