/-! arithmetic of ints as whole numbers -/
theorem bm32 (a : Int) : Int.bmod a (2 ^ 32) = (a + 2147483648) % 4294967296 - 2147483648 := by
  rw [Int.bmod_def]
  have e : ((2 ^ 32 : Nat) : Int) = 4294967296 := by decide
  rw [e]
  split <;> omega
theorem z_eq {a b : Int32} : a = b ↔ a.toInt = b.toInt := Int32.toInt_inj.symm
theorem z_in {i : Int32} {n : Nat} : vp_in i n ↔ 0 ≤ i.toInt ∧ i.toInt < (n : Int) := vp_in_iff
theorem z_add (a b : Int32) : (a + b).toInt = (a.toInt + b.toInt + 2147483648) % 4294967296 - 2147483648 := by rw [Int32.toInt_add]; exact bm32 _
theorem z_sub (a b : Int32) : (a - b).toInt = (a.toInt - b.toInt + 2147483648) % 4294967296 - 2147483648 := by rw [Int32.toInt_sub]; exact bm32 _
theorem z_mul (a b : Int32) : (a * b).toInt = (a.toInt * b.toInt + 2147483648) % 4294967296 - 2147483648 := by rw [Int32.toInt_mul]; exact bm32 _
theorem z_neg (a : Int32) : (-a).toInt = (- a.toInt + 2147483648) % 4294967296 - 2147483648 := by rw [Int32.toInt_neg]; exact bm32 _
theorem z_nI (n : Nat) : (nI n).toInt = ((n : Int) + 2147483648) % 4294967296 - 2147483648 := by
  show (Int32.ofNat n).toInt = _
  rw [Int32.toInt_ofNat']
  exact bm32 _
theorem z_lit {n : Nat} : (no_index (OfNat.ofNat n) : Int32).toInt = (((OfNat.ofNat n : Nat) : Int) + 2147483648) % 4294967296 - 2147483648 := by
  rw [Int32.toInt_ofNat]
  exact bm32 _
theorem z_cl {a : Int32} : a.toNatClampNeg = a.toInt.toNat := rfl
theorem z_sg (a : Int32) : a.toInt8.toInt32.toInt = (a.toInt + 128) % 256 - 128 := by
  rw [lg_i2b_toInt, Int.bmod_def]
  have e : ((2 ^ 8 : Nat) : Int) = 256 := by decide
  rw [e]
  split <;> omega
theorem z_255 (a : Int32) : (a &&& 255).toInt = a.toInt % 256 := by
  have h8 : a.toBitVec.toNat % 2 ^ 8 < 2 ^ 8 := Nat.mod_lt _ (by decide)
  rw [pk_and a 8 (by decide), nI_toInt (by omega)]
  have e : a.toInt = a.toBitVec.toInt := rfl
  rw [e, BitVec.toInt_eq_toNat_cond]
  have := a.toBitVec.isLt
  split <;> omega
theorem z_m1 : (-1 : Int32).toInt = -1 := by decide
theorem z_bd (a : Int32) : -2147483648 ≤ a.toInt ∧ a.toInt < 2147483648 := ⟨Int32.le_toInt a, Int32.toInt_lt a⟩
/-! a branch that asks for the contrary first -/
theorem bn_t {c A B : Prop} (h : c) (b : B) : (¬ c → A) ∧ (c → B) := ⟨fun z => absurd h z, fun _ => b⟩
theorem bn_f {c A B : Prop} (h : ¬ c) (a : A) : (¬ c → A) ∧ (c → B) := ⟨fun _ => a, fun z => absurd z h⟩
theorem bt_f {b : Bool} (h : ¬ b = true) : b = false := by
  cases b
  · rfl
  · exact absurd rfl h
theorem bf_t {b : Bool} (h : ¬ b = false) : b = true := by
  cases b
  · exact absurd rfl h
  · rfl
/-! what a world holds behind a step -/
section Get
variable {x : St} {o k a b : Nat} {v : Int32} {w : Int64} {q : Option Nat} {i : Int32}
theorem gII : (setI x o k v).1 a b = if a = o ∧ b = k then v else x.1 a b := rfl
theorem gIJ : (setI x o k v).2.1 = x.2.1 := rfl
theorem gIR : (setI x o k v).2.2.1 = x.2.2.1 := rfl
theorem gIA : (setI x o k v).2.2.2.1 = x.2.2.2.1 := rfl
theorem gIL : (setI x o k v).2.2.2.2.1 = x.2.2.2.2.1 := rfl
theorem gIN : (setI x o k v).2.2.2.2.2 = x.2.2.2.2.2 := rfl
theorem gJI : (setJ x o k w).1 = x.1 := rfl
theorem gJJ : (setJ x o k w).2.1 a b = if a = o ∧ b = k then w else x.2.1 a b := rfl
theorem gJR : (setJ x o k w).2.2.1 = x.2.2.1 := rfl
theorem gJA : (setJ x o k w).2.2.2.1 = x.2.2.2.1 := rfl
theorem gJL : (setJ x o k w).2.2.2.2.1 = x.2.2.2.2.1 := rfl
theorem gJN : (setJ x o k w).2.2.2.2.2 = x.2.2.2.2.2 := rfl
theorem gRI : (setR x o k q).1 = x.1 := rfl
theorem gRJ : (setR x o k q).2.1 = x.2.1 := rfl
theorem gRR : (setR x o k q).2.2.1 a b = if a = o ∧ b = k then q else x.2.2.1 a b := rfl
theorem gRA : (setR x o k q).2.2.2.1 = x.2.2.2.1 := rfl
theorem gRL : (setR x o k q).2.2.2.2.1 = x.2.2.2.2.1 := rfl
theorem gRN : (setR x o k q).2.2.2.2.2 = x.2.2.2.2.2 := rfl
theorem gAI : (setA x o i v).1 = x.1 := rfl
theorem gAJ : (setA x o i v).2.1 = x.2.1 := rfl
theorem gAR : (setA x o i v).2.2.1 = x.2.2.1 := rfl
theorem gAA : (setA x o i v).2.2.2.1 a = if a = o then upd (x.2.2.2.1 o) i.toNatClampNeg v else x.2.2.2.1 a := rfl
theorem gAL : (setA x o i v).2.2.2.2.1 = x.2.2.2.2.1 := rfl
theorem gAN : (setA x o i v).2.2.2.2.2 = x.2.2.2.2.2 := rfl
theorem gLI : (setL x o i w).1 = x.1 := rfl
theorem gLJ : (setL x o i w).2.1 = x.2.1 := rfl
theorem gLR : (setL x o i w).2.2.1 = x.2.2.1 := rfl
theorem gLA : (setL x o i w).2.2.2.1 = x.2.2.2.1 := rfl
theorem gLL : (setL x o i w).2.2.2.2.1 a = if a = o then vp_updL (x.2.2.2.2.1 o) i.toNatClampNeg w else x.2.2.2.2.1 a := rfl
theorem gLN : (setL x o i w).2.2.2.2.2 = x.2.2.2.2.2 := rfl
end Get
theorem w_eq {x y : St} (h1 : x.1 = y.1) (h2 : x.2.1 = y.2.1) (h3 : x.2.2.1 = y.2.2.1) (h4 : x.2.2.2.1 = y.2.2.2.1) (h5 : x.2.2.2.2.1 = y.2.2.2.2.1) (h6 : x.2.2.2.2.2 = y.2.2.2.2.2) : x = y :=
  Prod.ext h1 (Prod.ext h2 (Prod.ext h3 (Prod.ext h4 (Prod.ext h5 h6))))
theorem setI_setI {x : St} {o k : Nat} {v w : Int32} : setI (setI x o k v) o k w = setI x o k w := by
  refine w_eq ?_ rfl rfl rfl rfl rfl
  funext a b
  show (if a = o ∧ b = k then w else (if a = o ∧ b = k then v else x.1 a b)) = if a = o ∧ b = k then w else x.1 a b
  split <;> rfl
theorem setI_self {x : St} {o k : Nat} {v : Int32} (h : fI x o k = v) : setI x o k v = x := by
  refine w_eq ?_ rfl rfl rfl rfl rfl
  funext a b
  show (if a = o ∧ b = k then v else x.1 a b) = x.1 a b
  split
  · rename_i c
    rw [c.1, c.2]
    exact h.symm
  · rfl
theorem setI_comm {x : St} {o k l : Nat} {v w : Int32} (h : k ≠ l) : setI (setI x o k v) o l w = setI (setI x o l w) o k v := by
  refine w_eq ?_ rfl rfl rfl rfl rfl
  funext a b
  show (if a = o ∧ b = l then w else (if a = o ∧ b = k then v else x.1 a b)) = if a = o ∧ b = k then v else (if a = o ∧ b = l then w else x.1 a b)
  by_cases c1 : a = o ∧ b = l
  · rw [if_pos c1, if_neg (fun c2 => h (c2.2.symm.trans c1.2)), if_pos c1]
  · rw [if_neg c1]
    by_cases c2 : a = o ∧ b = k
    · rw [if_pos c2, if_pos c2]
    · rw [if_neg c2, if_neg c2, if_neg c1]
theorem nI_mul (a b : Nat) : nI a * nI b = nI (a * b) := (Int32.ofNat_mul a b).symm
theorem nI_sub {a b : Nat} (h : b ≤ a) : nI a - nI b = nI (a - b) := by
  have e : nI a = nI (a - b) + nI b := by rw [nI_add, Nat.sub_add_cancel h]
  rw [e, Int32.add_sub_cancel]
theorem nI_inc {k : Nat} : nI k + 1 = nI (k + 1) := nI_1 k
/-! bytes, letters, words of a text -/
abbrev ltr (v : Int32) : Prop := 97 ≤ v ∧ v ≤ 122 ∨ 65 ≤ v ∧ v ≤ 90
abbrev dgt (v : Int32) : Prop := 48 ≤ v ∧ v ≤ 57
abbrev wch (v : Int32) : Prop := ltr v ∨ dgt v ∨ v = 95
abbrev blk (v : Int32) : Prop := v = 32 ∨ v = 10
/-- the first place from k on, below n, that isn't as asked -/
def endF (p : Int32 → Bool) (T : Nat → Int32) (n : Nat) : Nat → Nat → Nat
  | 0, k => k
  | f + 1, k => if k < n ∧ p (T k) = true then endF p T n f (k + 1) else k
def endP (p : Int32 → Bool) (T : Nat → Int32) (n k : Nat) : Nat := endF p T n (n - k) k
theorem endP_eq (p : Int32 → Bool) (T : Nat → Int32) (n k : Nat) : endP p T n k = if k < n ∧ p (T k) = true then endP p T n (k + 1) else k := by
  unfold endP
  by_cases c : k < n
  · have e : n - k = (n - (k + 1)) + 1 := by omega
    rw [e]
    rfl
  · have e : n - k = 0 := by omega
    rw [e, if_neg (fun z => c z.1)]
    rfl
theorem endP_go {p : Int32 → Bool} {T : Nat → Int32} {n k : Nat} (h : k < n) (hp : p (T k) = true) : endP p T n k = endP p T n (k + 1) := by rw [endP_eq, if_pos ⟨h, hp⟩]
theorem endP_no {p : Int32 → Bool} {T : Nat → Int32} {n k : Nat} (h : ¬ (k < n ∧ p (T k) = true)) : endP p T n k = k := by rw [endP_eq, if_neg h]
theorem endP_ge (p : Int32 → Bool) (T : Nat → Int32) (n : Nat) : ∀ m k, n - k = m → k ≤ endP p T n k ∧ (k ≤ n → endP p T n k ≤ n) := by
  intro m
  induction m with
  | zero => intro k h; rw [endP_no (by omega)]; omega
  | succ m ih =>
    intro k h
    by_cases c : k < n ∧ p (T k) = true
    · rw [endP_go c.1 c.2]
      have := ih (k + 1) (by omega)
      omega
    · rw [endP_no c]
      omega
theorem endP_le {p : Int32 → Bool} {T : Nat → Int32} {n k : Nat} (h : k ≤ n) : endP p T n k ≤ n := (endP_ge p T n _ k rfl).2 h
theorem endP_le' (p : Int32 → Bool) (T : Nat → Int32) (n k : Nat) : k ≤ endP p T n k := (endP_ge p T n _ k rfl).1
theorem endP_stop (p : Int32 → Bool) (T : Nat → Int32) (n : Nat) : ∀ m k, n - k = m → ¬ (endP p T n k < n ∧ p (T (endP p T n k)) = true) := by
  intro m
  induction m with
  | zero => intro k h; rw [endP_no (by omega)]; omega
  | succ m ih =>
    intro k h
    by_cases c : k < n ∧ p (T k) = true
    · rw [endP_go c.1 c.2]
      exact ih (k + 1) (by omega)
    · rw [endP_no c]
      exact c
theorem endP_all (p : Int32 → Bool) (T : Nat → Int32) (n : Nat) : ∀ m k, n - k = m → ∀ i, k ≤ i → i < endP p T n k → i < n ∧ p (T i) = true := by
  intro m
  induction m with
  | zero => intro k h i h1 h2; rw [endP_no (by omega)] at h2; omega
  | succ m ih =>
    intro k h i h1 h2
    by_cases c : k < n ∧ p (T k) = true
    · rw [endP_go c.1 c.2] at h2
      by_cases e : i = k
      · rw [e]; exact c
      · exact ih (k + 1) (by omega) i (by omega) h2
    · rw [endP_no c] at h2
      omega
def skip (T : Nat → Int32) (n k : Nat) : Nat := endP (fun v => decide (blk v)) T n k
def wend (T : Nat → Int32) (n k : Nat) : Nat := endP (fun v => decide (wch v)) T n k
/-- how long the word is that begins at a place (0: none) -/
def wln (T : Nat → Int32) (n k : Nat) : Nat := if k < n ∧ ltr (T k) then wend T n (k + 1) - k else 0
theorem skip_le {T : Nat → Int32} {n k : Nat} (h : k ≤ n) : skip T n k ≤ n := endP_le h
theorem skip_ge (T : Nat → Int32) (n k : Nat) : k ≤ skip T n k := endP_le' _ T n k
theorem skip_no {T : Nat → Int32} {n k : Nat} (h : ¬ (k < n ∧ blk (T k))) : skip T n k = k := endP_no (fun z => h ⟨z.1, of_decide_eq_true z.2⟩)
theorem skip_go {T : Nat → Int32} {n k : Nat} (h : k < n) (hb : blk (T k)) : skip T n k = skip T n (k + 1) := endP_go h (decide_eq_true hb)
theorem skip_stop (T : Nat → Int32) (n k : Nat) : ¬ (skip T n k < n ∧ blk (T (skip T n k))) := fun z => endP_stop _ T n _ k rfl ⟨z.1, decide_eq_true z.2⟩
theorem skip_skip (T : Nat → Int32) (n k : Nat) : skip T n (skip T n k) = skip T n k := skip_no (skip_stop T n k)
theorem wend_no {T : Nat → Int32} {n k : Nat} (h : ¬ (k < n ∧ wch (T k))) : wend T n k = k := endP_no (fun z => h ⟨z.1, of_decide_eq_true z.2⟩)
theorem wend_go {T : Nat → Int32} {n k : Nat} (h : k < n) (hb : wch (T k)) : wend T n k = wend T n (k + 1) := endP_go h (decide_eq_true hb)
theorem wend_ge (T : Nat → Int32) (n k : Nat) : k ≤ wend T n k := endP_le' _ T n k
theorem wend_le {T : Nat → Int32} {n k : Nat} (h : k ≤ n) : wend T n k ≤ n := endP_le h
theorem wend_all {T : Nat → Int32} {n k i : Nat} (h1 : k ≤ i) (h2 : i < wend T n k) : i < n ∧ wch (T i) :=
  have z := endP_all _ T n _ k rfl i h1 h2
  ⟨z.1, of_decide_eq_true z.2⟩
theorem wln_le {T : Nat → Int32} {n k : Nat} (h : k ≤ n) : k + wln T n k ≤ n := by
  unfold wln
  split
  · rename_i c
    have := @wend_le T n (k + 1) (by omega)
    have := wend_ge T n (k + 1)
    omega
  · omega
theorem wln_pos {T : Nat → Int32} {n k : Nat} : 0 < wln T n k ↔ k < n ∧ ltr (T k) := by
  unfold wln
  split
  · rename_i c
    have := wend_ge T n (k + 1)
    exact ⟨fun _ => c, fun _ => by omega⟩
  · rename_i c
    exact ⟨fun z => absurd z (by omega), fun z => absurd z c⟩
theorem wln_all {T : Nat → Int32} {n k i : Nat} (h : i < wln T n k) : k + i < n ∧ wch (T (k + i)) := by
  unfold wln at h
  split at h
  · rename_i c
    rcases Nat.eq_zero_or_pos i with e | e
    · subst e
      exact ⟨c.1, Or.inl c.2⟩
    · exact wend_all (k := k + 1) (by omega) (by omega)
  · omega
