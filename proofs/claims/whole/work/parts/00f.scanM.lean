/-! the model reads a text: look, blanks, words, signs -/
/-- the text that is read: T, of n bytes -/
def TxM (x : St) (T : Nat → Int32) (n : Nat) : Prop := fI x 0 15 = nI n ∧ n ≤ 40000 ∧ fN x 2 = 40000 ∧ ∀ i, i < n → fA x 2 i = T i ∧ 0 ≤ T i ∧ T i ≤ 255
theorem TxM.I {x : St} {T : Nat → Int32} {n k : Nat} {v : Int32} (h : TxM x T n) (hk : 15 ≠ k) : TxM (setI x 0 k v) T n := by
  obtain ⟨h1, h2, h3, h4⟩ := h
  refine ⟨?_, h2, h3, h4⟩
  show (if 0 = 0 ∧ 15 = k then v else x.1 0 15) = _
  rw [if_neg (fun z => hk z.2)]
  exact h1
theorem s_look {post : Int32 → St → Prop} {x : St} {T : Nat → Int32} {n k : Nat} (h : TxM x T n) (hk : fI x 0 16 = nI k) (hb : k < 100000) (p : post (if k < n then T k else -1) x) : wp_Mod_look post x := by
  obtain ⟨h1, h2, h3, h4⟩ := h
  unfold wp_Mod_look
  by_cases c : k < n
  · rw [if_pos c] at p
    refine br_f (by rw [h1, hk]; (first | omega | (simp (disch := omega) only [Int32.le_iff_toInt_le, Int32.lt_iff_toInt_lt, z_eq, z_in, nI_toInt, z_cl, z_m1, z_sg, z_255, Int32.reduceToInt] at * <;> omega) | (simp only [Int32.le_iff_toInt_le, Int32.lt_iff_toInt_lt, z_eq, z_in, z_add, z_sub, z_mul, z_neg, z_nI, z_cl, z_sg, z_255, z_lit, Int32.reduceToInt] at * <;> omega))) ⟨by rw [hk, h3]; (first | omega | (simp (disch := omega) only [Int32.le_iff_toInt_le, Int32.lt_iff_toInt_lt, z_eq, z_in, nI_toInt, z_cl, z_m1, z_sg, z_255, Int32.reduceToInt] at * <;> omega) | (simp only [Int32.le_iff_toInt_le, Int32.lt_iff_toInt_lt, z_eq, z_in, z_add, z_sub, z_mul, z_neg, z_nI, z_cl, z_sg, z_255, z_lit, Int32.reduceToInt] at * <;> omega)), ?_⟩
    rw [hk]
    show post (x.2.2.2.1 2 (nI k).toNatClampNeg) x
    rw [nI_clamp (by omega)]
    show post (fA x 2 k) x
    rw [(h4 k c).1]
    exact p
  · rw [if_neg c] at p
    exact br_t (by rw [h1, hk]; (first | omega | (simp (disch := omega) only [Int32.le_iff_toInt_le, Int32.lt_iff_toInt_lt, z_eq, z_in, nI_toInt, z_cl, z_m1, z_sg, z_255, Int32.reduceToInt] at * <;> omega) | (simp only [Int32.le_iff_toInt_le, Int32.lt_iff_toInt_lt, z_eq, z_in, z_add, z_sub, z_mul, z_neg, z_nI, z_cl, z_sg, z_255, z_lit, Int32.reduceToInt] at * <;> omega))) p
theorem s_blanks_loop {post : St → Prop} {x : St} {T : Nat → Int32} {n : Nat} (h : TxM x T n) : ∀ m k, n - k ≤ m → k ≤ 40000 → post (setI x 0 16 (nI (skip T n k))) → wl_Mod_blanks_0 post (m + 1) (setI x 0 16 (nI k)) := by
  have hn := h.2.1
  intro m
  induction m with
  | zero =>
    intro k hm hk p
    show j_Mod_blanks_0 post _ _
    unfold j_Mod_blanks_0
    have c : ¬ k < n := by omega
    rw [skip_no (fun z => c z.1)] at p
    refine s_look (h.I (by decide)) (k := k) rfl (by omega) ?_
    rw [if_neg c]
    refine br_f (by decide) (s_look (h.I (by decide)) (k := k) rfl (by omega) ?_)
    rw [if_neg c]
    exact bn_f (by decide) p
  | succ m ih =>
    intro k hm hk p
    show j_Mod_blanks_0 post _ _
    unfold j_Mod_blanks_0
    have go : k < n → blk (T k) → j_Mod_blanks_18 post (wl_Mod_blanks_0 post (m + 1)) (setI x 0 16 (nI k)) := by
      intro c b
      unfold j_Mod_blanks_18
      refine nm_r (e' := setI x 0 16 (nI (k + 1))) ?_ ?_
      · show setI (setI x 0 16 (nI k)) 0 16 (nI k + 1) = _
        rw [setI_setI, nI_1]
      · exact ih (k + 1) (by omega) (by omega) (by rw [skip_go c b] at p; exact p)
    by_cases c : k < n
    · refine s_look (h.I (by decide)) (k := k) rfl (by omega) ?_
      rw [if_pos c]
      by_cases b : T k = 32
      · exact br_t b (go c (Or.inl b))
      · refine br_f b (s_look (h.I (by decide)) (k := k) rfl (by omega) ?_)
        rw [if_pos c]
        by_cases b2 : T k = 10
        · exact bn_t b2 (go c (Or.inr b2))
        · rw [skip_no (fun z => z.2.elim b b2)] at p
          exact bn_f b2 p
    · rw [skip_no (fun z => c z.1)] at p
      refine s_look (h.I (by decide)) (k := k) rfl (by omega) ?_
      rw [if_neg c]
      refine br_f (by decide) (s_look (h.I (by decide)) (k := k) rfl (by omega) ?_)
      rw [if_neg c]
      exact bn_f (by decide) p
theorem s_blanks {post : St → Prop} {x : St} {T : Nat → Int32} {n k : Nat} (h : TxM x T n) (hk : fI x 0 16 = nI k) (hb : k ≤ 40000) (p : post (setI x 0 16 (nI (skip T n k)))) : wp_Mod_blanks post x := by
  have l := s_blanks_loop (post := post) h (n - k) k (Nat.le_refl _) hb p
  rw [setI_self hk] at l
  exact ⟨_, l⟩
theorem s_isLetter {post : Int32 → St → Prop} {v : Int32} {x : St} (p : post (if ltr v then 1 else 0) x) : wp_Mod_isLetter post v x := by
  unfold wp_Mod_isLetter j_Mod_isLetter_12 j_Mod_isLetter_24 j_Mod_isLetter_28
  have e1 : ltr v → post 1 x := fun z => by rw [if_pos z] at p; exact p
  have e0 : ¬ ltr v → post 0 x := fun z => by rw [if_neg z] at p; exact p
  clear p
  refine ⟨fun c1 => ⟨fun c2 => e0 ?_, fun c2 => ⟨fun c3 => e0 ?_, fun c3 => e1 ?_⟩⟩, fun c1 => ⟨fun c2 => e1 ?_, fun c2 => ⟨fun c3 => e0 ?_, fun c3 => ⟨fun c4 => e0 ?_, fun c4 => e1 ?_⟩⟩⟩⟩ <;> clear e0 e1 <;> unfold ltr <;> (first | omega | (simp (disch := omega) only [Int32.le_iff_toInt_le, Int32.lt_iff_toInt_lt, z_eq, z_in, nI_toInt, z_cl, z_m1, z_sg, z_255, Int32.reduceToInt] at * <;> omega) | (simp only [Int32.le_iff_toInt_le, Int32.lt_iff_toInt_lt, z_eq, z_in, z_add, z_sub, z_mul, z_neg, z_nI, z_cl, z_sg, z_255, z_lit, Int32.reduceToInt] at * <;> omega))
theorem s_isDigit {post : Int32 → St → Prop} {v : Int32} {x : St} (p : post (if dgt v then 1 else 0) x) : wp_Mod_isDigit post v x := by
  unfold wp_Mod_isDigit j_Mod_isDigit_16
  have e1 : dgt v → post 1 x := fun z => by rw [if_pos z] at p; exact p
  have e0 : ¬ dgt v → post 0 x := fun z => by rw [if_neg z] at p; exact p
  clear p
  refine ⟨fun c1 => e0 ?_, fun c1 => ⟨fun c2 => e0 ?_, fun c2 => e1 ?_⟩⟩ <;> clear e0 e1 <;> unfold dgt <;> (first | omega | (simp (disch := omega) only [Int32.le_iff_toInt_le, Int32.lt_iff_toInt_lt, z_eq, z_in, nI_toInt, z_cl, z_m1, z_sg, z_255, Int32.reduceToInt] at * <;> omega) | (simp only [Int32.le_iff_toInt_le, Int32.lt_iff_toInt_lt, z_eq, z_in, z_add, z_sub, z_mul, z_neg, z_nI, z_cl, z_sg, z_255, z_lit, Int32.reduceToInt] at * <;> omega))
/-- the loop of wordAt stands at e -/
theorem s_wordAt_loop {post : Int32 → St → Prop} {x : St} {T : Nat → Int32} {n k : Nat} (h : TxM x T n) (hk : k ≤ 40000) (p : post (nI (wln T n k)) x) : ∀ m e, n - e ≤ m → k ≤ e → e ≤ 40000 → (e = k ∨ k < e ∧ k < n ∧ ltr (T k) ∧ wend T n (k + 1) = wend T n e) → wl_Mod_wordAt_2 post (m + 1) (nI k) (nI e) x := by
  obtain ⟨h1, h2, h3, h4⟩ := h
  have stop : ∀ e, k ≤ e → e ≤ 40000 → e - k = wln T n k → j_Mod_wordAt_56 post (nI k) (nI e) x := by
    intro e a b c
    unfold j_Mod_wordAt_56
    rw [← c] at p
    have q : nI e - nI k = nI (e - k) := nI_sub a
    rw [q]
    exact p
  intro m
  induction m with
  | zero =>
    intro e hm ha hb hc
    show j_Mod_wordAt_2 post _ _ _ _
    unfold j_Mod_wordAt_2
    refine br_t (by rw [h1]; (first | omega | (simp (disch := omega) only [Int32.le_iff_toInt_le, Int32.lt_iff_toInt_lt, z_eq, z_in, nI_toInt, z_cl, z_m1, z_sg, z_255, Int32.reduceToInt] at * <;> omega) | (simp only [Int32.le_iff_toInt_le, Int32.lt_iff_toInt_lt, z_eq, z_in, z_add, z_sub, z_mul, z_neg, z_nI, z_cl, z_sg, z_255, z_lit, Int32.reduceToInt] at * <;> omega))) (stop e ha hb ?_)
    rcases hc with hc | ⟨c1, c2, c3, c4⟩
    · subst hc
      unfold wln
      rw [if_neg (by omega)]
      omega
    · unfold wln
      rw [if_pos ⟨c2, c3⟩, c4, wend_no (by omega)]
  | succ m ih =>
    intro e hm ha hb hc
    show j_Mod_wordAt_2 post _ _ _ _
    unfold j_Mod_wordAt_2
    by_cases c : e < n
    · have rd : rA x 2 (nI e) = T e := by
        show x.2.2.2.1 2 (nI e).toNatClampNeg = _
        rw [nI_clamp (by omega)]
        exact (h4 e c).1
      have inb : vp_in (nI e) (fN x 2) := by rw [h3]; (first | omega | (simp (disch := omega) only [Int32.le_iff_toInt_le, Int32.lt_iff_toInt_lt, z_eq, z_in, nI_toInt, z_cl, z_m1, z_sg, z_255, Int32.reduceToInt] at * <;> omega) | (simp only [Int32.le_iff_toInt_le, Int32.lt_iff_toInt_lt, z_eq, z_in, z_add, z_sub, z_mul, z_neg, z_nI, z_cl, z_sg, z_255, z_lit, Int32.reduceToInt] at * <;> omega))
      have go : wch (T e) → (e = k → ltr (T k)) → j_Mod_wordAt_50 post (wl_Mod_wordAt_2 post (m + 1)) (nI k) (nI e) x := by
        intro w1 w2
        unfold j_Mod_wordAt_50
        rw [nI_1]
        refine ih (e + 1) (by omega) (by omega) (by omega) (Or.inr ?_)
        rcases hc with hc | ⟨c1, c2, c3, c4⟩
        · subst hc
          exact ⟨by omega, c, w2 rfl, rfl⟩
        · exact ⟨by omega, c2, c3, by rw [c4, wend_go c w1]⟩
      have no : ¬ ltr (T e) → (k < e → ¬ wch (T e)) → j_Mod_wordAt_56 post (nI k) (nI e) x := by
        intro w1 w2
        refine stop e ha hb ?_
        rcases hc with hc | ⟨c1, c2, c3, c4⟩
        · subst hc
          unfold wln
          rw [if_neg (fun z => w1 z.2)]
          omega
        · unfold wln
          rw [if_pos ⟨c2, c3⟩, c4, wend_no (fun z => w2 c1 z.2)]
      refine br_f (by rw [h1]; (first | omega | (simp (disch := omega) only [Int32.le_iff_toInt_le, Int32.lt_iff_toInt_lt, z_eq, z_in, nI_toInt, z_cl, z_m1, z_sg, z_255, Int32.reduceToInt] at * <;> omega) | (simp only [Int32.le_iff_toInt_le, Int32.lt_iff_toInt_lt, z_eq, z_in, z_add, z_sub, z_mul, z_neg, z_nI, z_cl, z_sg, z_255, z_lit, Int32.reduceToInt] at * <;> omega))) ⟨inb, ?_⟩
      rw [rd]
      refine s_isLetter ?_
      by_cases w : ltr (T e)
      · rw [if_pos w]
        exact bn_f (by decide) (go (Or.inl w) (fun z => z ▸ w))
      · rw [if_neg w]
        refine bn_t rfl ?_
        by_cases g : k < e
        · refine br_f (by (first | omega | (simp (disch := omega) only [Int32.le_iff_toInt_le, Int32.lt_iff_toInt_lt, z_eq, z_in, nI_toInt, z_cl, z_m1, z_sg, z_255, Int32.reduceToInt] at * <;> omega) | (simp only [Int32.le_iff_toInt_le, Int32.lt_iff_toInt_lt, z_eq, z_in, z_add, z_sub, z_mul, z_neg, z_nI, z_cl, z_sg, z_255, z_lit, Int32.reduceToInt] at * <;> omega))) ⟨inb, s_isDigit ?_⟩
          rw [rd]
          by_cases w2 : dgt (T e)
          · rw [if_pos w2]
            exact bn_f (by decide) (go (Or.inr (Or.inl w2)) (fun z => by omega))
          · rw [if_neg w2]
            refine bn_t rfl ⟨inb, ?_⟩
            by_cases w3 : T e = 95
            · exact bn_t w3 (go (Or.inr (Or.inr w3)) (fun z => by omega))
            · exact bn_f w3 (no w (fun _ z => z.elim w (fun z => z.elim w2 w3)))
        · exact br_t (by (first | omega | (simp (disch := omega) only [Int32.le_iff_toInt_le, Int32.lt_iff_toInt_lt, z_eq, z_in, nI_toInt, z_cl, z_m1, z_sg, z_255, Int32.reduceToInt] at * <;> omega) | (simp only [Int32.le_iff_toInt_le, Int32.lt_iff_toInt_lt, z_eq, z_in, z_add, z_sub, z_mul, z_neg, z_nI, z_cl, z_sg, z_255, z_lit, Int32.reduceToInt] at * <;> omega))) (no w (fun z => absurd z g))
    · refine br_t (by rw [h1]; (first | omega | (simp (disch := omega) only [Int32.le_iff_toInt_le, Int32.lt_iff_toInt_lt, z_eq, z_in, nI_toInt, z_cl, z_m1, z_sg, z_255, Int32.reduceToInt] at * <;> omega) | (simp only [Int32.le_iff_toInt_le, Int32.lt_iff_toInt_lt, z_eq, z_in, z_add, z_sub, z_mul, z_neg, z_nI, z_cl, z_sg, z_255, z_lit, Int32.reduceToInt] at * <;> omega))) (stop e ha hb ?_)
      rcases hc with hc | ⟨c1, c2, c3, c4⟩
      · subst hc
        unfold wln
        rw [if_neg (fun z => c z.1)]
        omega
      · unfold wln
        rw [if_pos ⟨c2, c3⟩, c4, wend_no (fun z => c z.1)]
theorem s_wordAt {post : Int32 → St → Prop} {x : St} {T : Nat → Int32} {n k : Nat} (h : TxM x T n) (hk : k ≤ 40000) (p : post (nI (wln T n k)) x) : wp_Mod_wordAt post (nI k) x :=
  ⟨_, s_wordAt_loop h hk p (n - k) k (Nat.le_refl _) (Nat.le_refl _) hk (Or.inl rfl)⟩
/-- the number that the bytes of a word make -/
def wv (T : Nat → Int32) (k : Nat) : Nat → Int64
  | 0 => 0
  | i + 1 => (wv T k i <<< ((8 : Int32).toInt64 &&& 63)) ||| (T (k + i)).toInt64
theorem s_wordOf_loop {post : Int64 → St → Prop} {x : St} {T : Nat → Int32} {n k w : Nat} (h : TxM x T n) (hk : k + w ≤ n) (p : post (if w ≤ 8 then wv T k w else 0) x) : ∀ m i, i + m = w → wl_Mod_wordOf_11 post (m + 1) (nI k) (nI w) (wv T k i) (nI i) x := by
  obtain ⟨h1, h2, h3, h4⟩ := h
  intro m
  induction m with
  | zero =>
    intro i hi
    show j_Mod_wordOf_11 post _ _ _ _ _ _
    unfold j_Mod_wordOf_11
    have e : i = w := by omega
    subst e
    refine br_t (by (first | omega | (simp (disch := omega) only [Int32.le_iff_toInt_le, Int32.lt_iff_toInt_lt, z_eq, z_in, nI_toInt, z_cl, z_m1, z_sg, z_255, Int32.reduceToInt] at * <;> omega) | (simp only [Int32.le_iff_toInt_le, Int32.lt_iff_toInt_lt, z_eq, z_in, z_add, z_sub, z_mul, z_neg, z_nI, z_cl, z_sg, z_255, z_lit, Int32.reduceToInt] at * <;> omega))) ?_
    by_cases c : i ≤ 8
    · rw [if_pos c] at p
      exact br_t (by (first | omega | (simp (disch := omega) only [Int32.le_iff_toInt_le, Int32.lt_iff_toInt_lt, z_eq, z_in, nI_toInt, z_cl, z_m1, z_sg, z_255, Int32.reduceToInt] at * <;> omega) | (simp only [Int32.le_iff_toInt_le, Int32.lt_iff_toInt_lt, z_eq, z_in, z_add, z_sub, z_mul, z_neg, z_nI, z_cl, z_sg, z_255, z_lit, Int32.reduceToInt] at * <;> omega))) p
    · rw [if_neg c] at p
      exact br_f (by (first | omega | (simp (disch := omega) only [Int32.le_iff_toInt_le, Int32.lt_iff_toInt_lt, z_eq, z_in, nI_toInt, z_cl, z_m1, z_sg, z_255, Int32.reduceToInt] at * <;> omega) | (simp only [Int32.le_iff_toInt_le, Int32.lt_iff_toInt_lt, z_eq, z_in, z_add, z_sub, z_mul, z_neg, z_nI, z_cl, z_sg, z_255, z_lit, Int32.reduceToInt] at * <;> omega))) p
  | succ m ih =>
    intro i hi
    show j_Mod_wordOf_11 post _ _ _ _ _ _
    unfold j_Mod_wordOf_11
    refine br_f (by (first | omega | (simp (disch := omega) only [Int32.le_iff_toInt_le, Int32.lt_iff_toInt_lt, z_eq, z_in, nI_toInt, z_cl, z_m1, z_sg, z_255, Int32.reduceToInt] at * <;> omega) | (simp only [Int32.le_iff_toInt_le, Int32.lt_iff_toInt_lt, z_eq, z_in, z_add, z_sub, z_mul, z_neg, z_nI, z_cl, z_sg, z_255, z_lit, Int32.reduceToInt] at * <;> omega))) ⟨by rw [h3, nI_add]; (first | omega | (simp (disch := omega) only [Int32.le_iff_toInt_le, Int32.lt_iff_toInt_lt, z_eq, z_in, nI_toInt, z_cl, z_m1, z_sg, z_255, Int32.reduceToInt] at * <;> omega) | (simp only [Int32.le_iff_toInt_le, Int32.lt_iff_toInt_lt, z_eq, z_in, z_add, z_sub, z_mul, z_neg, z_nI, z_cl, z_sg, z_255, z_lit, Int32.reduceToInt] at * <;> omega)), ?_⟩
    refine nm_r (e' := wv T k (i + 1)) ?_ ?_
    · show _ ||| (x.2.2.2.1 2 (nI k + nI i).toNatClampNeg).toInt64 = (wv T k i <<< ((8 : Int32).toInt64 &&& 63)) ||| (T (k + i)).toInt64
      rw [nI_add, nI_clamp (by omega), show x.2.2.2.1 2 (k + i) = T (k + i) from (h4 (k + i) (by omega)).1]
    · rw [nI_1]
      exact ih (i + 1) (by omega)
theorem s_wordOf {post : Int64 → St → Prop} {x : St} {T : Nat → Int32} {n k : Nat} (h : TxM x T n) (hk : k ≤ n) (p : post (if wln T n k ≤ 8 then wv T k (wln T n k) else 0) x) : wp_Mod_wordOf post (nI k) x := by
  unfold wp_Mod_wordOf
  have h2 := h.2.1
  refine s_wordAt h (by omega) ?_
  exact ⟨_, s_wordOf_loop h (wln_le hk) p (wln T n k) 0 (by omega)⟩
theorem s_fail {post : St → Prop} {v : Int32} {x : St} (p : post (if fI x 0 17 = -1 then setI x 0 17 v else x)) : wp_Mod_fail post v x := by
  unfold wp_Mod_fail
  by_cases c : fI x 0 17 = -1
  · rw [if_pos c] at p
    exact bn_t c (nm_e p)
  · rw [if_neg c] at p
    exact bn_f c p
/-- sees and takes a sign -/
theorem s_takesSign {post : Int32 → St → Prop} {v : Int32} {x : St} {T : Nat → Int32} {n k : Nat} (h : TxM x T n) (hk : fI x 0 16 = nI k) (hb : k ≤ n) (hv : 0 ≤ v)
    (p1 : fI x 0 17 = -1 → skip T n k < n → T (skip T n k) = v → post 1 (setI x 0 16 (nI (skip T n k + 1))))
    (p0 : ¬ (fI x 0 17 = -1 ∧ skip T n k < n ∧ T (skip T n k) = v) → post 0 (setI x 0 16 (nI (skip T n k)))) : wp_Mod_takesSign post v x := by
  have h2 := h.2.1
  have hs := @skip_le T n k hb
  unfold wp_Mod_takesSign j_Mod_takesSign_20
  refine s_blanks h hk (by omega) ?_
  by_cases c : fI x 0 17 = -1
  · refine bn_t c (s_look (h.I (by decide)) (k := skip T n k) rfl (by omega) ?_)
    by_cases c2 : skip T n k < n
    · rw [if_pos c2]
      by_cases c3 : T (skip T n k) = v
      · refine br_t c3 (nm_r (e' := setI x 0 16 (nI (skip T n k + 1))) ?_ (p1 c c2 c3))
        show setI (setI x 0 16 (nI (skip T n k))) 0 16 (nI (skip T n k) + 1) = _
        rw [setI_setI, nI_1]
      · exact br_f c3 (p0 (fun z => c3 z.2.2))
    · rw [if_neg c2]
      exact br_f (fun z => by rw [← z] at hv; exact absurd hv (by decide)) (p0 (fun z => c2 z.2.1))
  · exact bn_f c (p0 (fun z => c z.1))
theorem s_wantSign {post : St → Prop} {v : Int32} {x : St} {T : Nat → Int32} {n k : Nat} (h : TxM x T n) (hk : fI x 0 16 = nI k) (hb : k ≤ n) (hv : 0 ≤ v)
    (p1 : fI x 0 17 = -1 → skip T n k < n → T (skip T n k) = v → post (setI x 0 16 (nI (skip T n k + 1))))
    (p0 : fI x 0 17 = -1 → ¬ (skip T n k < n ∧ T (skip T n k) = v) → post (setI (setI x 0 16 (nI (skip T n k))) 0 17 (nI (skip T n k))))
    (p2 : fI x 0 17 ≠ -1 → post (setI x 0 16 (nI (skip T n k)))) : wp_Mod_wantSign post v x := by
  unfold wp_Mod_wantSign
  refine s_takesSign h hk hb hv (fun a b c => bn_f (by decide) (p1 a b c)) (fun q => bn_t rfl (s_fail ?_))
  by_cases c : fI x 0 17 = -1
  · rw [if_pos (show fI (setI x 0 16 (nI (skip T n k))) 0 17 = -1 from c)]
    exact p0 c (fun z => q ⟨c, z⟩)
  · rw [if_neg (show ¬ fI (setI x 0 16 (nI (skip T n k))) 0 17 = -1 from c)]
    exact p2 c
