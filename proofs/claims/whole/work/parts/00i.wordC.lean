/-! the class: words of a text -/
theorem c_isOfWord {post : Int32 → St → Prop} {v : Int32} {x : St} (p : post (if wch v then 1 else 0) x) : wp_V_isOfWord post v x := by
  have e1 : wch v → post 1 x := fun z => by rw [if_pos z] at p; exact p
  have e0 : ¬ wch v → post 0 x := fun z => by rw [if_neg z] at p; exact p
  clear p
  have s36 : ¬ (ltr v ∨ dgt v) → j_V_isOfWord_36 post v x := by
    intro z
    unfold j_V_isOfWord_36 j_V_isOfWord_42
    exact ⟨fun c => e0 (fun w => w.elim (fun w => z (Or.inl w)) (fun w => w.elim (fun w => z (Or.inr w)) c)), fun c => e1 (Or.inr (Or.inr c))⟩
  have s24 : ¬ ltr v → j_V_isOfWord_24 post v x := by
    intro z
    unfold j_V_isOfWord_24 j_V_isOfWord_42
    refine ⟨fun c => s36 ?_, fun c => ⟨fun d => e1 (Or.inr (Or.inl ?_)), fun d => s36 ?_⟩⟩ <;> clear s36 e0 e1 <;> unfold ltr at * <;> unfold dgt at * <;> (first | omega | (simp (disch := omega) only [Int32.le_iff_toInt_le, Int32.lt_iff_toInt_lt, z_eq, z_in, nI_toInt, z_cl, z_m1, z_sg, z_255, Int32.reduceToInt] at * <;> omega) | (simp only [Int32.le_iff_toInt_le, Int32.lt_iff_toInt_lt, z_eq, z_in, z_add, z_sub, z_mul, z_neg, z_nI, z_cl, z_sg, z_255, z_lit, Int32.reduceToInt] at * <;> omega))
  have s12 : ¬ (97 ≤ v ∧ v ≤ 122) → j_V_isOfWord_12 post v x := by
    intro z
    unfold j_V_isOfWord_12 j_V_isOfWord_42
    refine ⟨fun c => s24 ?_, fun c => ⟨fun d => e1 (Or.inl ?_), fun d => s24 ?_⟩⟩ <;> clear s24 s36 e0 e1 <;> unfold ltr at * <;> (first | omega | (simp (disch := omega) only [Int32.le_iff_toInt_le, Int32.lt_iff_toInt_lt, z_eq, z_in, nI_toInt, z_cl, z_m1, z_sg, z_255, Int32.reduceToInt] at * <;> omega) | (simp only [Int32.le_iff_toInt_le, Int32.lt_iff_toInt_lt, z_eq, z_in, z_add, z_sub, z_mul, z_neg, z_nI, z_cl, z_sg, z_255, z_lit, Int32.reduceToInt] at * <;> omega))
  unfold wp_V_isOfWord j_V_isOfWord_42
  refine ⟨fun c => s12 ?_, fun c => ⟨fun d => e1 (Or.inl ?_), fun d => s12 ?_⟩⟩ <;> clear s12 s24 s36 e0 e1 <;> unfold ltr at * <;> (first | omega | (simp (disch := omega) only [Int32.le_iff_toInt_le, Int32.lt_iff_toInt_lt, z_eq, z_in, nI_toInt, z_cl, z_m1, z_sg, z_255, Int32.reduceToInt] at * <;> omega) | (simp only [Int32.le_iff_toInt_le, Int32.lt_iff_toInt_lt, z_eq, z_in, z_add, z_sub, z_mul, z_neg, z_nI, z_cl, z_sg, z_255, z_lit, Int32.reduceToInt] at * <;> omega))
/-- a word is taken from place s on: the loop stands at e -/
theorem c_takeAnyWord_loop {post : Int32 → St → Prop} {o q : Nat} {y : St} {T : Nat → Int32} {n s : Nat} (h : TxC y o q T n) (h4 : fI y o 4 = nI s) (hs : s ≤ n)
    (p : post 1 (setI (setI y o 2 (nI (wend T n s))) o 5 (nI (wend T n s - s)))) : ∀ m e, n - e ≤ m → s ≤ e → e ≤ n → wend T n s = wend T n e → wl_Scn_takeAnyWord_20 post (m + 1) o (setI y o 2 (nI e)) := by
  have ht : ∀ k, TxC (setI y o 2 (nI k)) o q T n := fun k => h.I (by decide)
  have e1 : ∀ k, fI (setI y o 2 (nI k)) o 1 = nI n := fun k => (ht k).2.1
  have e2 : ∀ k, fI (setI y o 2 (nI k)) o 2 = nI k := fun k => gI_at
  have e4 : ∀ k, fI (setI y o 2 (nI k)) o 4 = nI s := fun k => by rw [gI_ne (by decide)]; exact h4
  have h3 := h.2.2.1
  have stop : ∀ e, s ≤ e → e ≤ n → wend T n s = e → j_Scn_takeAnyWord_63 post o (setI y o 2 (nI e)) := by
    intro e a b c
    rw [c] at p
    unfold j_Scn_takeAnyWord_63
    rw [e2, e4, nI_sub a]
    exact nm_e p
  intro m
  induction m with
  | zero =>
    intro e hm ha hb hw
    show j_Scn_takeAnyWord_20 post _ _ _
    unfold j_Scn_takeAnyWord_20
    rw [e1, e2]
    exact br_t (by (first | omega | (simp (disch := omega) only [Int32.le_iff_toInt_le, Int32.lt_iff_toInt_lt, z_eq, z_in, nI_toInt, z_cl, z_m1, z_sg, z_255, Int32.reduceToInt] at * <;> omega) | (simp only [Int32.le_iff_toInt_le, Int32.lt_iff_toInt_lt, z_eq, z_in, z_add, z_sub, z_mul, z_neg, z_nI, z_cl, z_sg, z_255, z_lit, Int32.reduceToInt] at * <;> omega))) (stop e ha hb (by rw [hw, wend_no (by omega)]))
  | succ m ih =>
    intro e hm ha hb hw
    show j_Scn_takeAnyWord_20 post _ _ _
    unfold j_Scn_takeAnyWord_20
    rw [e1, e2]
    by_cases c : e < n
    · obtain ⟨r1, r2, r3⟩ := (ht e).rd c
      refine br_f (by (first | omega | (simp (disch := omega) only [Int32.le_iff_toInt_le, Int32.lt_iff_toInt_lt, z_eq, z_in, nI_toInt, z_cl, z_m1, z_sg, z_255, Int32.reduceToInt] at * <;> omega) | (simp only [Int32.le_iff_toInt_le, Int32.lt_iff_toInt_lt, z_eq, z_in, z_add, z_sub, z_mul, z_neg, z_nI, z_cl, z_sg, z_255, z_lit, Int32.reduceToInt] at * <;> omega))) ⟨q, (ht e).1, r2, ?_⟩
      rw [r3]
      refine c_isOfWord ?_
      by_cases w : wch (T e)
      · rw [if_pos w]
        refine br_f (by decide) (nm_r (e' := setI y o 2 (nI (e + 1))) ?_ ?_)
        · rw [e2, setI_setI, nI_1]
        · exact ih (e + 1) (by omega) (by omega) (by omega) (by rw [hw, wend_go c w])
      · rw [if_neg w]
        exact br_t rfl (stop e ha hb (by rw [hw, wend_no (fun z => w z.2)]))
    · exact br_t (by (first | omega | (simp (disch := omega) only [Int32.le_iff_toInt_le, Int32.lt_iff_toInt_lt, z_eq, z_in, nI_toInt, z_cl, z_m1, z_sg, z_255, Int32.reduceToInt] at * <;> omega) | (simp only [Int32.le_iff_toInt_le, Int32.lt_iff_toInt_lt, z_eq, z_in, z_add, z_sub, z_mul, z_neg, z_nI, z_cl, z_sg, z_255, z_lit, Int32.reduceToInt] at * <;> omega))) (stop e ha hb (by rw [hw, wend_no (fun z => c z.1)]))
/-- the world behind a word that was taken, from s on, w bytes -/
def tkW (x : St) (o s w : Nat) : St := setI (setI (setI x o 4 (nI s)) o 2 (nI (s + w))) o 5 (nI w)
theorem c_takeAnyWord {post : Int32 → St → Prop} {o q : Nat} {x : St} {T : Nat → Int32} {n k : Nat} (h : TxC x o q T n) (hk : fI x o 2 = nI k) (hb : k ≤ n)
    (p1 : 0 < wln T n (skip T n k) → post 1 (tkW x o (skip T n k) (wln T n (skip T n k))))
    (p0 : wln T n (skip T n k) = 0 → post 0 (setI x o 2 (nI (skip T n k)))) : wp_Scn_takeAnyWord post o x := by
  have h3 := h.2.2.1
  have hs := @skip_le T n k hb
  unfold wp_Scn_takeAnyWord
  refine c_next h hk (by omega) ?_
  refine c_isLetter ?_
  have key : ltr (if skip T n k < n then T (skip T n k) else -1) ↔ 0 < wln T n (skip T n k) := by
    rw [wln_pos]
    by_cases c : skip T n k < n
    · rw [if_pos c]
      exact ⟨fun z => ⟨c, z⟩, fun z => z.2⟩
    · rw [if_neg c]
      exact ⟨fun z => absurd z (by decide), fun z => absurd z.1 c⟩
  by_cases c : 0 < wln T n (skip T n k)
  · rw [if_pos (key.mpr c)]
    refine bn_f (by decide) (nm_r (e' := setI (setI x o 4 (nI (skip T n k))) o 2 (nI (skip T n k))) ?_ ?_)
    · rw [gI_at, setI_comm (by decide)]
    · have c2 := wln_pos.mp c
      have ew : wend T n (skip T n k) = wend T n (skip T n k + 1) := wend_go c2.1 (Or.inl c2.2)
      have el : wln T n (skip T n k) = wend T n (skip T n k) - skip T n k := by unfold wln; rw [if_pos c2, ew]
      have g := wend_ge T n (skip T n k)
      refine ⟨_, c_takeAnyWord_loop (s := skip T n k) (h.I (by decide)) gI_at hs ?_ (n - skip T n k) (skip T n k) (Nat.le_refl _) (Nat.le_refl _) hs rfl⟩
      have := p1 c
      unfold tkW at this
      rw [el, show skip T n k + (wend T n (skip T n k) - skip T n k) = wend T n (skip T n k) by omega] at this
      exact this
  · rw [if_neg (fun z => c (key.mp z))]
    exact bn_t rfl (p0 (by omega))
/-- a String of the class that is this word -/
def isSt (j : Nat) (b : List Nat) : Prop := sLen.getD j 0 = b.length ∧ b.length < 100 ∧ ∀ i, i < b.length → sChr j (nI i) = nI (b.getD i 0)
theorem c_isWord_loop {post : Int32 → St → Prop} {o q j : Nat} {b : List Nat} {x : St} {T : Nat → Int32} {n s : Nat} (h : TxC x o q T n) (hj : isSt j b) (h4 : fI x o 4 = nI s) (h5 : fI x o 5 = nI b.length) (hs : s + b.length ≤ n)
    (p1 : (∀ i, i < b.length → T (s + i) = nI (b.getD i 0)) → post 1 x) (p0 : ¬ (∀ i, i < b.length → T (s + i) = nI (b.getD i 0)) → post 0 x) :
    ∀ m i, i + m = b.length → (∀ a, a < i → T (s + a) = nI (b.getD a 0)) → wl_Scn_isWord_15 post (m + 1) o j (nI i) x := by
  obtain ⟨j1, j2, j3⟩ := hj
  have h3 := h.2.2.1
  intro m
  induction m with
  | zero =>
    intro i hi ha
    show j_Scn_isWord_15 post _ _ _ _ _
    unfold j_Scn_isWord_15
    rw [h5]
    refine br_t (by (first | omega | (simp (disch := omega) only [Int32.le_iff_toInt_le, Int32.lt_iff_toInt_lt, z_eq, z_in, nI_toInt, z_cl, z_m1, z_sg, z_255, Int32.reduceToInt] at * <;> omega) | (simp only [Int32.le_iff_toInt_le, Int32.lt_iff_toInt_lt, z_eq, z_in, z_add, z_sub, z_mul, z_neg, z_nI, z_cl, z_sg, z_255, z_lit, Int32.reduceToInt] at * <;> omega))) (p1 (fun a hh => ha a (by omega)))
  | succ m ih =>
    intro i hi ha
    show j_Scn_isWord_15 post _ _ _ _ _
    unfold j_Scn_isWord_15
    rw [h5, h4, nI_add, j1]
    obtain ⟨r1, r2, r3⟩ := h.rd (k := s + i) (by omega)
    refine br_f (by (first | omega | (simp (disch := omega) only [Int32.le_iff_toInt_le, Int32.lt_iff_toInt_lt, z_eq, z_in, nI_toInt, z_cl, z_m1, z_sg, z_255, Int32.reduceToInt] at * <;> omega) | (simp only [Int32.le_iff_toInt_le, Int32.lt_iff_toInt_lt, z_eq, z_in, z_add, z_sub, z_mul, z_neg, z_nI, z_cl, z_sg, z_255, z_lit, Int32.reduceToInt] at * <;> omega))) ⟨q, h.1, r2, by (first | omega | (simp (disch := omega) only [Int32.le_iff_toInt_le, Int32.lt_iff_toInt_lt, z_eq, z_in, nI_toInt, z_cl, z_m1, z_sg, z_255, Int32.reduceToInt] at * <;> omega) | (simp only [Int32.le_iff_toInt_le, Int32.lt_iff_toInt_lt, z_eq, z_in, z_add, z_sub, z_mul, z_neg, z_nI, z_cl, z_sg, z_255, z_lit, Int32.reduceToInt] at * <;> omega)), by (first | omega | (simp (disch := omega) only [Int32.le_iff_toInt_le, Int32.lt_iff_toInt_lt, z_eq, z_in, nI_toInt, z_cl, z_m1, z_sg, z_255, Int32.reduceToInt] at * <;> omega) | (simp only [Int32.le_iff_toInt_le, Int32.lt_iff_toInt_lt, z_eq, z_in, z_add, z_sub, z_mul, z_neg, z_nI, z_cl, z_sg, z_255, z_lit, Int32.reduceToInt] at * <;> omega)), ?_⟩
    rw [r3, j3 i (by omega)]
    by_cases c : T (s + i) = nI (b.getD i 0)
    · refine br_t c ?_
      rw [nI_1]
      exact ih (i + 1) (by omega) (lt_s ha c)
    · exact br_f c (p0 (fun z => c (z i (by omega))))
theorem c_takeWord {post : Int32 → St → Prop} {o q j : Nat} {b : List Nat} {x : St} {T : Nat → Int32} {n k : Nat} (h : TxC x o q T n) (hj : isSt j b) (hl : 0 < b.length) (hk : fI x o 2 = nI k) (hb : k ≤ n)
    (p1 : isWd T n (skip T n k) b → post 1 (tkW x o (skip T n k) b.length))
    (p0 : ¬ isWd T n (skip T n k) b → ∀ y, (y = setI x o 2 (nI (skip T n k)) ∨ ∃ w, y = setI (setI (setI x o 4 (nI (skip T n k))) o 2 (nI (skip T n k))) o 5 w) → post 0 y) : wp_Scn_takeWord post o j x := by
  have h3 := h.2.2.1
  have hs := @skip_le T n k hb
  unfold wp_Scn_takeWord
  refine c_takeAnyWord h hk hb (fun c => bn_f (by decide) ?_) (fun c => bn_t rfl (p0 (fun z => by have := z.1; omega) _ (Or.inl rfl)))
  have ht : TxC (tkW x o (skip T n k) (wln T n (skip T n k))) o q T n := ((h.I (by decide)).I (by decide)).I (by decide)
  have e5 : fI (tkW x o (skip T n k) (wln T n (skip T n k))) o 5 = nI (wln T n (skip T n k)) := gI_at
  have e4 : fI (tkW x o (skip T n k) (wln T n (skip T n k))) o 4 = nI (skip T n k) := by unfold tkW; rw [gI_ne (by decide), gI_ne (by decide), gI_at]
  have hw := @wln_le T n (skip T n k) hs
  have no : ¬ isWd T n (skip T n k) b → post 0 (setI (tkW x o (skip T n k) (wln T n (skip T n k))) o 2 (fI (tkW x o (skip T n k) (wln T n (skip T n k))) o 4)) := by
    intro z
    refine p0 z _ (Or.inr ⟨nI (wln T n (skip T n k)), ?_⟩)
    rw [e4]
    unfold tkW
    rw [setI_comm (by decide), setI_setI]
  unfold wp_Scn_isWord
  rw [e5, hj.1]
  by_cases d : wln T n (skip T n k) = b.length
  · refine br_t (by rw [d]) ?_
    refine ⟨_, c_isWord_loop (s := skip T n k) ht hj e4 (by rw [e5, d]) (by omega) (fun z => br_f (by decide) ?_) (fun z => br_t rfl (nm_e (no (fun w => z w.2)))) b.length 0 (by omega) lt_0⟩
    rw [d]
    exact p1 ⟨d, z⟩
  · have hj2 := hj.2.1
    exact br_f (fun z => d ((nI_eq (by omega) (by omega)).mp z)) (br_t rfl (nm_e (no (fun w => d w.1))))
