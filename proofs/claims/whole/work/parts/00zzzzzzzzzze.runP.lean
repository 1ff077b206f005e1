/-! tests, and what can be -/
def hld (op : Nat) (c : Int32) : Bool := if op = 0 then decide (c = 0) else if op = 1 then decide (¬ c = 0) else if op = 2 then decide (c < 0) else if op = 3 then decide (c ≤ 0) else if op = 4 then decide (0 < c) else decide (0 ≤ c)
def cHl (op : Nat) (lo hi : Int32) : Bool := if op = 0 then decide (lo ≤ 0) && decide (0 ≤ hi) else if op = 1 then decide (¬ lo = 0) || decide (¬ hi = 0) else if op < 4 then hld op lo else hld op hi
/-- the contrary of an operator -/
def ctr (op : Nat) : Nat := if op < 2 then 1 - op else 7 - op
theorem ctr_le {op : Nat} (h : op ≤ 5) : ctr op ≤ 5 := by unfold ctr; split <;> omega
theorem dec_not {P Q : Prop} [Decidable P] [Decidable Q] (h : Q ↔ ¬ P) : decide Q = !decide P := by
  by_cases c : P
  · rw [decide_eq_true c, decide_eq_false (fun q => h.mp q c)]
    rfl
  · rw [decide_eq_false c, decide_eq_true (h.mpr c)]
    rfl
theorem hld_ctr {op : Nat} {c : Int32} (h : op ≤ 5) : hld (ctr op) c = !hld op c := by
  have e : op = 0 ∨ op = 1 ∨ op = 2 ∨ op = 3 ∨ op = 4 ∨ op = 5 := by omega
  rcases e with e | e | e | e | e | e <;> subst e
  · exact dec_not (P := c = 0) (Q := ¬ c = 0) Iff.rfl
  · exact dec_not (P := ¬ c = 0) (Q := c = 0) ⟨fun q z => z q, fun z => Decidable.byContradiction z⟩
  · exact dec_not (P := c < 0) (Q := 0 ≤ c) (by constructor <;> intro z <;> (first | omega | (simp (disch := omega) only [Int32.le_iff_toInt_le, Int32.lt_iff_toInt_lt, z_eq, z_in, nI_toInt, z_cl, z_m1, z_sg, z_255, Int32.reduceToInt] at * <;> omega) | (simp only [Int32.le_iff_toInt_le, Int32.lt_iff_toInt_lt, z_eq, z_in, z_add, z_sub, z_mul, z_neg, z_nI, z_cl, z_sg, z_255, z_lit, Int32.reduceToInt] at * <;> omega)))
  · exact dec_not (P := c ≤ 0) (Q := 0 < c) (by constructor <;> intro z <;> (first | omega | (simp (disch := omega) only [Int32.le_iff_toInt_le, Int32.lt_iff_toInt_lt, z_eq, z_in, nI_toInt, z_cl, z_m1, z_sg, z_255, Int32.reduceToInt] at * <;> omega) | (simp only [Int32.le_iff_toInt_le, Int32.lt_iff_toInt_lt, z_eq, z_in, z_add, z_sub, z_mul, z_neg, z_nI, z_cl, z_sg, z_255, z_lit, Int32.reduceToInt] at * <;> omega)))
  · exact dec_not (P := 0 < c) (Q := c ≤ 0) (by constructor <;> intro z <;> (first | omega | (simp (disch := omega) only [Int32.le_iff_toInt_le, Int32.lt_iff_toInt_lt, z_eq, z_in, nI_toInt, z_cl, z_m1, z_sg, z_255, Int32.reduceToInt] at * <;> omega) | (simp only [Int32.le_iff_toInt_le, Int32.lt_iff_toInt_lt, z_eq, z_in, z_add, z_sub, z_mul, z_neg, z_nI, z_cl, z_sg, z_255, z_lit, Int32.reduceToInt] at * <;> omega)))
  · exact dec_not (P := 0 ≤ c) (Q := c < 0) (by constructor <;> intro z <;> (first | omega | (simp (disch := omega) only [Int32.le_iff_toInt_le, Int32.lt_iff_toInt_lt, z_eq, z_in, nI_toInt, z_cl, z_m1, z_sg, z_255, Int32.reduceToInt] at * <;> omega) | (simp only [Int32.le_iff_toInt_le, Int32.lt_iff_toInt_lt, z_eq, z_in, z_add, z_sub, z_mul, z_neg, z_nI, z_cl, z_sg, z_255, z_lit, Int32.reduceToInt] at * <;> omega)))
theorem s_holds {post : Int32 → St → Prop} {op : Nat} {c : Int32} {x : St} (h : op ≤ 5) (p : post (if hld op c = true then 1 else 0) x) : wp_Mod_holds post (nI op) c x := by
  have e : op = 0 ∨ op = 1 ∨ op = 2 ∨ op = 3 ∨ op = 4 ∨ op = 5 := by omega
  unfold wp_Mod_holds
  rcases e with e | e | e | e | e | e <;> subst e
  · refine bn_t rfl ?_
    by_cases d : c = 0
    · rw [if_pos (show hld 0 c = true from decide_eq_true d)] at p; exact bn_t d p
    · rw [if_neg (show ¬ hld 0 c = true from fun z => d (of_decide_eq_true z))] at p; exact bn_f d p
  · refine bn_f (by decide) (bn_t rfl ?_)
    by_cases d : c = 0
    · rw [if_neg (show ¬ hld 1 c = true from fun z => (of_decide_eq_true z) d)] at p; exact br_t d p
    · rw [if_pos (show hld 1 c = true from decide_eq_true d)] at p; exact br_f d p
  · refine bn_f (by decide) (bn_f (by decide) (bn_t rfl ?_))
    by_cases d : c < 0
    · rw [if_pos (show hld 2 c = true from decide_eq_true d)] at p; exact br_f (by (first | omega | (simp (disch := omega) only [Int32.le_iff_toInt_le, Int32.lt_iff_toInt_lt, z_eq, z_in, nI_toInt, z_cl, z_m1, z_sg, z_255, Int32.reduceToInt] at * <;> omega) | (simp only [Int32.le_iff_toInt_le, Int32.lt_iff_toInt_lt, z_eq, z_in, z_add, z_sub, z_mul, z_neg, z_nI, z_cl, z_sg, z_255, z_lit, Int32.reduceToInt] at * <;> omega))) p
    · rw [if_neg (show ¬ hld 2 c = true from fun z => d (of_decide_eq_true z))] at p; exact br_t (by (first | omega | (simp (disch := omega) only [Int32.le_iff_toInt_le, Int32.lt_iff_toInt_lt, z_eq, z_in, nI_toInt, z_cl, z_m1, z_sg, z_255, Int32.reduceToInt] at * <;> omega) | (simp only [Int32.le_iff_toInt_le, Int32.lt_iff_toInt_lt, z_eq, z_in, z_add, z_sub, z_mul, z_neg, z_nI, z_cl, z_sg, z_255, z_lit, Int32.reduceToInt] at * <;> omega))) p
  · refine bn_f (by decide) (bn_f (by decide) (bn_f (by decide) (bn_t rfl ?_)))
    by_cases d : c ≤ 0
    · rw [if_pos (show hld 3 c = true from decide_eq_true d)] at p; exact br_f (by (first | omega | (simp (disch := omega) only [Int32.le_iff_toInt_le, Int32.lt_iff_toInt_lt, z_eq, z_in, nI_toInt, z_cl, z_m1, z_sg, z_255, Int32.reduceToInt] at * <;> omega) | (simp only [Int32.le_iff_toInt_le, Int32.lt_iff_toInt_lt, z_eq, z_in, z_add, z_sub, z_mul, z_neg, z_nI, z_cl, z_sg, z_255, z_lit, Int32.reduceToInt] at * <;> omega))) p
    · rw [if_neg (show ¬ hld 3 c = true from fun z => d (of_decide_eq_true z))] at p; exact br_t (by (first | omega | (simp (disch := omega) only [Int32.le_iff_toInt_le, Int32.lt_iff_toInt_lt, z_eq, z_in, nI_toInt, z_cl, z_m1, z_sg, z_255, Int32.reduceToInt] at * <;> omega) | (simp only [Int32.le_iff_toInt_le, Int32.lt_iff_toInt_lt, z_eq, z_in, z_add, z_sub, z_mul, z_neg, z_nI, z_cl, z_sg, z_255, z_lit, Int32.reduceToInt] at * <;> omega))) p
  · refine bn_f (by decide) (bn_f (by decide) (bn_f (by decide) (bn_f (by decide) (bn_t rfl ?_))))
    by_cases d : 0 < c
    · rw [if_pos (show hld 4 c = true from decide_eq_true d)] at p; exact br_f (by (first | omega | (simp (disch := omega) only [Int32.le_iff_toInt_le, Int32.lt_iff_toInt_lt, z_eq, z_in, nI_toInt, z_cl, z_m1, z_sg, z_255, Int32.reduceToInt] at * <;> omega) | (simp only [Int32.le_iff_toInt_le, Int32.lt_iff_toInt_lt, z_eq, z_in, z_add, z_sub, z_mul, z_neg, z_nI, z_cl, z_sg, z_255, z_lit, Int32.reduceToInt] at * <;> omega))) p
    · rw [if_neg (show ¬ hld 4 c = true from fun z => d (of_decide_eq_true z))] at p; exact br_t (by (first | omega | (simp (disch := omega) only [Int32.le_iff_toInt_le, Int32.lt_iff_toInt_lt, z_eq, z_in, nI_toInt, z_cl, z_m1, z_sg, z_255, Int32.reduceToInt] at * <;> omega) | (simp only [Int32.le_iff_toInt_le, Int32.lt_iff_toInt_lt, z_eq, z_in, z_add, z_sub, z_mul, z_neg, z_nI, z_cl, z_sg, z_255, z_lit, Int32.reduceToInt] at * <;> omega))) p
  · refine bn_f (by decide) (bn_f (by decide) (bn_f (by decide) (bn_f (by decide) (bn_f (by decide) ?_))))
    by_cases d : 0 ≤ c
    · rw [if_pos (show hld 5 c = true from decide_eq_true d)] at p; exact br_f (by (first | omega | (simp (disch := omega) only [Int32.le_iff_toInt_le, Int32.lt_iff_toInt_lt, z_eq, z_in, nI_toInt, z_cl, z_m1, z_sg, z_255, Int32.reduceToInt] at * <;> omega) | (simp only [Int32.le_iff_toInt_le, Int32.lt_iff_toInt_lt, z_eq, z_in, z_add, z_sub, z_mul, z_neg, z_nI, z_cl, z_sg, z_255, z_lit, Int32.reduceToInt] at * <;> omega))) p
    · rw [if_neg (show ¬ hld 5 c = true from fun z => d (of_decide_eq_true z))] at p; exact br_t (by (first | omega | (simp (disch := omega) only [Int32.le_iff_toInt_le, Int32.lt_iff_toInt_lt, z_eq, z_in, nI_toInt, z_cl, z_m1, z_sg, z_255, Int32.reduceToInt] at * <;> omega) | (simp only [Int32.le_iff_toInt_le, Int32.lt_iff_toInt_lt, z_eq, z_in, z_add, z_sub, z_mul, z_neg, z_nI, z_cl, z_sg, z_255, z_lit, Int32.reduceToInt] at * <;> omega))) p
theorem s_contrary {post : Int32 → St → Prop} {op : Nat} {x : St} (h : op ≤ 5) (p : post (nI (ctr op)) x) : wp_Mod_contrary post (nI op) x := by
  have e : op = 0 ∨ op = 1 ∨ op = 2 ∨ op = 3 ∨ op = 4 ∨ op = 5 := by omega
  unfold wp_Mod_contrary
  rcases e with e | e | e | e | e | e <;> subst e
  · exact br_f (by decide) p
  · exact br_f (by decide) p
  · exact br_t (by decide) p
  · exact br_t (by decide) p
  · exact br_t (by decide) p
  · exact br_t (by decide) p
theorem k_holds {post : Int32 → St → Prop} {op : Nat} {c : Int32} {x : St} (h : op ≤ 5) (p : post (if hld op c = true then 1 else 0) x) : wp_Ans_holds post (cop (nI op)) c x := by
  have e : op = 0 ∨ op = 1 ∨ op = 2 ∨ op = 3 ∨ op = 4 ∨ op = 5 := by omega
  unfold wp_Ans_holds
  have ab : ∀ {P : Prop} {a b : Int}, a = b → ¬ a = b → P := fun h1 h2 => absurd h1 h2
  rcases e with e | e | e | e | e | e <;> subst e
  · have e0 : (cop (nI 0)).toInt = 0 := by decide
    rw [e0]
    refine ⟨fun _ => ?_, fun z => absurd z (by decide), fun z => absurd z (by decide), fun z => absurd z (by decide), fun z => absurd z (by decide), fun z => absurd z (by decide)⟩
    by_cases d : c = 0
    · rw [if_pos (show hld 0 c = true from decide_eq_true d)] at p; exact bn_t d p
    · rw [if_neg (show ¬ hld 0 c = true from fun z => d (of_decide_eq_true z))] at p; exact bn_f d p
  · have e0 : (cop (nI 1)).toInt = 1 := by decide
    rw [e0]
    refine ⟨fun z => absurd z (by decide), fun _ => ?_, fun z => absurd z (by decide), fun z => absurd z (by decide), fun z => absurd z (by decide), fun z => absurd z (by decide)⟩
    by_cases d : c = 0
    · rw [if_neg (show ¬ hld 1 c = true from fun z => (of_decide_eq_true z) d)] at p; exact br_t d p
    · rw [if_pos (show hld 1 c = true from decide_eq_true d)] at p; exact br_f d p
  · have e0 : (cop (nI 2)).toInt = 2 := by decide
    rw [e0]
    refine ⟨fun z => absurd z (by decide), fun z => absurd z (by decide), fun _ => ?_, fun z => absurd z (by decide), fun z => absurd z (by decide), fun z => absurd z (by decide)⟩
    by_cases d : c < 0
    · rw [if_pos (show hld 2 c = true from decide_eq_true d)] at p; exact br_f (by (first | omega | (simp (disch := omega) only [Int32.le_iff_toInt_le, Int32.lt_iff_toInt_lt, z_eq, z_in, nI_toInt, z_cl, z_m1, z_sg, z_255, Int32.reduceToInt] at * <;> omega) | (simp only [Int32.le_iff_toInt_le, Int32.lt_iff_toInt_lt, z_eq, z_in, z_add, z_sub, z_mul, z_neg, z_nI, z_cl, z_sg, z_255, z_lit, Int32.reduceToInt] at * <;> omega))) p
    · rw [if_neg (show ¬ hld 2 c = true from fun z => d (of_decide_eq_true z))] at p; exact br_t (by (first | omega | (simp (disch := omega) only [Int32.le_iff_toInt_le, Int32.lt_iff_toInt_lt, z_eq, z_in, nI_toInt, z_cl, z_m1, z_sg, z_255, Int32.reduceToInt] at * <;> omega) | (simp only [Int32.le_iff_toInt_le, Int32.lt_iff_toInt_lt, z_eq, z_in, z_add, z_sub, z_mul, z_neg, z_nI, z_cl, z_sg, z_255, z_lit, Int32.reduceToInt] at * <;> omega))) p
  · have e0 : (cop (nI 3)).toInt = 5 := by decide
    rw [e0]
    refine ⟨fun z => absurd z (by decide), fun z => absurd z (by decide), fun z => absurd z (by decide), fun z => absurd z (by decide), fun z => absurd z (by decide), fun _ => ?_⟩
    by_cases d : c ≤ 0
    · rw [if_pos (show hld 3 c = true from decide_eq_true d)] at p; exact br_f (by (first | omega | (simp (disch := omega) only [Int32.le_iff_toInt_le, Int32.lt_iff_toInt_lt, z_eq, z_in, nI_toInt, z_cl, z_m1, z_sg, z_255, Int32.reduceToInt] at * <;> omega) | (simp only [Int32.le_iff_toInt_le, Int32.lt_iff_toInt_lt, z_eq, z_in, z_add, z_sub, z_mul, z_neg, z_nI, z_cl, z_sg, z_255, z_lit, Int32.reduceToInt] at * <;> omega))) p
    · rw [if_neg (show ¬ hld 3 c = true from fun z => d (of_decide_eq_true z))] at p; exact br_t (by (first | omega | (simp (disch := omega) only [Int32.le_iff_toInt_le, Int32.lt_iff_toInt_lt, z_eq, z_in, nI_toInt, z_cl, z_m1, z_sg, z_255, Int32.reduceToInt] at * <;> omega) | (simp only [Int32.le_iff_toInt_le, Int32.lt_iff_toInt_lt, z_eq, z_in, z_add, z_sub, z_mul, z_neg, z_nI, z_cl, z_sg, z_255, z_lit, Int32.reduceToInt] at * <;> omega))) p
  · have e0 : (cop (nI 4)).toInt = 4 := by decide
    rw [e0]
    refine ⟨fun z => absurd z (by decide), fun z => absurd z (by decide), fun z => absurd z (by decide), fun z => absurd z (by decide), fun _ => ?_, fun z => absurd z (by decide)⟩
    by_cases d : 0 < c
    · rw [if_pos (show hld 4 c = true from decide_eq_true d)] at p; exact br_f (by (first | omega | (simp (disch := omega) only [Int32.le_iff_toInt_le, Int32.lt_iff_toInt_lt, z_eq, z_in, nI_toInt, z_cl, z_m1, z_sg, z_255, Int32.reduceToInt] at * <;> omega) | (simp only [Int32.le_iff_toInt_le, Int32.lt_iff_toInt_lt, z_eq, z_in, z_add, z_sub, z_mul, z_neg, z_nI, z_cl, z_sg, z_255, z_lit, Int32.reduceToInt] at * <;> omega))) p
    · rw [if_neg (show ¬ hld 4 c = true from fun z => d (of_decide_eq_true z))] at p; exact br_t (by (first | omega | (simp (disch := omega) only [Int32.le_iff_toInt_le, Int32.lt_iff_toInt_lt, z_eq, z_in, nI_toInt, z_cl, z_m1, z_sg, z_255, Int32.reduceToInt] at * <;> omega) | (simp only [Int32.le_iff_toInt_le, Int32.lt_iff_toInt_lt, z_eq, z_in, z_add, z_sub, z_mul, z_neg, z_nI, z_cl, z_sg, z_255, z_lit, Int32.reduceToInt] at * <;> omega))) p
  · have e0 : (cop (nI 5)).toInt = 3 := by decide
    rw [e0]
    refine ⟨fun z => absurd z (by decide), fun z => absurd z (by decide), fun z => absurd z (by decide), fun _ => ?_, fun z => absurd z (by decide), fun z => absurd z (by decide)⟩
    by_cases d : 0 ≤ c
    · rw [if_pos (show hld 5 c = true from decide_eq_true d)] at p; exact br_f (by (first | omega | (simp (disch := omega) only [Int32.le_iff_toInt_le, Int32.lt_iff_toInt_lt, z_eq, z_in, nI_toInt, z_cl, z_m1, z_sg, z_255, Int32.reduceToInt] at * <;> omega) | (simp only [Int32.le_iff_toInt_le, Int32.lt_iff_toInt_lt, z_eq, z_in, z_add, z_sub, z_mul, z_neg, z_nI, z_cl, z_sg, z_255, z_lit, Int32.reduceToInt] at * <;> omega))) p
    · rw [if_neg (show ¬ hld 5 c = true from fun z => d (of_decide_eq_true z))] at p; exact br_t (by (first | omega | (simp (disch := omega) only [Int32.le_iff_toInt_le, Int32.lt_iff_toInt_lt, z_eq, z_in, nI_toInt, z_cl, z_m1, z_sg, z_255, Int32.reduceToInt] at * <;> omega) | (simp only [Int32.le_iff_toInt_le, Int32.lt_iff_toInt_lt, z_eq, z_in, z_add, z_sub, z_mul, z_neg, z_nI, z_cl, z_sg, z_255, z_lit, Int32.reduceToInt] at * <;> omega))) p
/-- a literal as a value -/
def lvl (l : QLt) : PV := l.2
abbrev Tl : Type := Nat × Nat × PV × PV × List PV
section
variable (F : List SFd) (L : List QLt)
def fOf (v : Int32) : Nat := v.toNatClampNeg
def cOf (v : Int32) : Nat := ncol (F.take (fOf v))
def tOf (v : Int32) : Nat := uI (fTy F (fOf v))
/-- is a value one of the literals from a on? -/
def isL (ty a m : Nat) (p : PV) : Bool := (List.range m).any (fun i => decide (cmpV ty p (lvl (L.getD (a + i) lt0)) = 0))
/-- the truth of a test, by the values of columns -/
def tst (v : Nat → Option PV) (s : QSt) : Nat :=
  if s.1 = 0 then (match v (cOf F s.2.1) with | none => 2 | some _ => 1)
  else if s.1 = 1 then (match v (cOf F s.2.1) with | none => 1 | some _ => 2)
  else match v (cOf F s.2.1) with
    | none => 4
    | some p =>
      if s.1 = 2 then (if isL L (tOf F s.2.1) (fOf s.2.2.2.1) (fOf s.2.2.2.2) p = true then 2 else 1)
      else if s.1 = 3 then (if hld (fOf s.2.2.1) (cmpV (tOf F s.2.1) p (lvl (L.getD (fOf s.2.2.2.1) lt0))) = true then 2 else 1)
      else match v (cOf F s.2.2.2.1) with
        | none => 4
        | some q => if hld (fOf s.2.2.1) (cmpV (tOf F s.2.1) p q) = true then 2 else 1
/-- can a comparison with a literal hold? -/
def canC (ty op : Nat) (t : Tl) (l : PV) : Bool := if t.2.2.2.2 = [] then cHl op (cmpV ty t.2.2.1 l) (cmpV ty t.2.2.2.1 l) else t.2.2.2.2.any (fun w => hld op (cmpV ty w l))
/-- the truths that can be, by what is told of columns -/
def canS (τ : Nat → Tl) (s : QSt) : Nat :=
  let t := τ (cOf F s.2.1)
  if s.1 = 0 then mkS (decide (t.2.1 < t.1)) (decide (0 < t.2.1)) false
  else if s.1 = 1 then mkS (decide (0 < t.2.1)) (decide (t.2.1 < t.1)) false
  else if s.1 = 4 then
    (let u := τ (cOf F s.2.2.2.1)
    let n := decide (0 < t.2.1) || decide (0 < u.2.1)
    if t.2.1 < t.1 ∧ u.2.1 < u.1 then
      mkS (cHl (ctr (fOf s.2.2.1)) (cmpV (tOf F s.2.1) t.2.2.1 u.2.2.2.1) (cmpV (tOf F s.2.1) t.2.2.2.1 u.2.2.1)) (cHl (fOf s.2.2.1) (cmpV (tOf F s.2.1) t.2.2.1 u.2.2.2.1) (cmpV (tOf F s.2.1) t.2.2.2.1 u.2.2.1)) n
    else mkS false false n)
  else if t.2.1 < t.1 then
    (if s.1 = 3 then mkS (canC (tOf F s.2.1) (ctr (fOf s.2.2.1)) t (lvl (L.getD (fOf s.2.2.2.1) lt0))) (canC (tOf F s.2.1) (fOf s.2.2.1) t (lvl (L.getD (fOf s.2.2.2.1) lt0))) (decide (0 < t.2.1))
    else mkS (if t.2.2.2.2 = [] then decide (¬ cmpV (tOf F s.2.1) t.2.2.1 t.2.2.2.1 = 0) || !isL L (tOf F s.2.1) (fOf s.2.2.2.1) (fOf s.2.2.2.2) t.2.2.1 else t.2.2.2.2.any (fun w => !isL L (tOf F s.2.1) (fOf s.2.2.2.1) (fOf s.2.2.2.2) w)) ((List.range (fOf s.2.2.2.2)).any (fun i => canC (tOf F s.2.1) 0 t (lvl (L.getD (fOf s.2.2.2.1 + i) lt0)))) (decide (0 < t.2.1)))
  else mkS false false (decide (0 < t.2.1))
end
/-- steps, one behind the other -/
def evl (T : QSt → Nat) : List QSt → List Nat → List Nat
  | [], st => st
  | s :: R, st =>
    if s.1 = 5 then (match st with | a :: st => evl T R (sNot a :: st) | [] => evl T R [])
    else if s.1 = 6 ∨ s.1 = 7 then (match st with | c :: a :: st => evl T R ((if s.1 = 6 then sAnd a c else sOr a c) :: st) | st => evl T R st)
    else evl T R (T s :: st)
/-- the truth of a condition -/
def cnd (T : QSt → Nat) (E : List QSt) : Nat := (evl T E []).headD 0
def all3 : List Nat → List Nat → Prop
  | [], [] => True
  | a :: s, b :: t => sub3 a b ∧ all3 s t
  | _, _ => False
theorem evl_sub {T U : QSt → Nat} : ∀ E st su, all3 st su → (∀ s, s ∈ E → ¬ s.1 = 5 → ¬ s.1 = 6 → ¬ s.1 = 7 → sub3 (T s) (U s)) → all3 (evl T E st) (evl U E su) := by
  intro E
  induction E with
  | nil => intro st su h _; exact h
  | cons s R ih =>
    intro st su h hs
    have hR := fun t ht => hs t (List.mem_cons_of_mem _ ht)
    unfold evl
    by_cases c5 : s.1 = 5
    · rw [if_pos c5, if_pos c5]
      match st, su, h with
      | [], [], h => exact ih [] [] trivial hR
      | a :: st, b :: su, h => exact ih _ _ ⟨h.1.not, h.2⟩ hR
    · rw [if_neg c5, if_neg c5]
      by_cases c6 : s.1 = 6 ∨ s.1 = 7
      · rw [if_pos c6, if_pos c6]
        match st, su, h with
        | [], [], h => exact ih [] [] trivial hR
        | [a], [b], h => exact ih [a] [b] h hR
        | a :: a2 :: st, b :: b2 :: su, h =>
          refine ih _ _ ⟨?_, h.2.2⟩ hR
          by_cases c : s.1 = 6
          · rw [if_pos c, if_pos c]; exact h.2.1.and h.1
          · rw [if_neg c, if_neg c]; exact h.2.1.or h.1
      · rw [if_neg c6, if_neg c6]
        exact ih _ _ ⟨hs s (List.mem_cons_self ..) c5 (fun e => c6 (Or.inl e)) (fun e => c6 (Or.inr e)), h⟩ hR
theorem cnd_sub {T U : QSt → Nat} {E : List QSt} (h : ∀ s, s ∈ E → ¬ s.1 = 5 → ¬ s.1 = 6 → ¬ s.1 = 7 → sub3 (T s) (U s)) : sub3 (cnd T E) (cnd U E) := by
  have := evl_sub E [] [] trivial h
  unfold cnd
  generalize evl T E [] = a at *
  generalize evl U E [] = c at *
  match a, c, this with
  | [], [], _ => exact ⟨fun z => z, fun z => z, fun z => z⟩
  | _ :: _, _ :: _, h => exact h.1
