/-! the class reads a text: Scan -/
def TxC (x : St) (o q : Nat) (T : Nat → Int32) (n : Nat) : Prop := fR x o 0 = some q ∧ fI x o 1 = nI n ∧ n ≤ 40000 ∧ n ≤ fN x q ∧ fN x q < 2 ^ 31 ∧ ∀ i, i < n → fA x q i = (T i).toInt8.toInt32 ∧ 0 ≤ T i ∧ T i ≤ 255
theorem TxC.I {x : St} {o q : Nat} {T : Nat → Int32} {n k : Nat} {v : Int32} (h : TxC x o q T n) (hk : 1 ≠ k) : TxC (setI x o k v) o q T n := by
  obtain ⟨h1, h2, h3, h4, h5, h6⟩ := h
  refine ⟨h1, ?_, h3, h4, h5, h6⟩
  show (if o = o ∧ 1 = k then v else x.1 o 1) = _
  rw [if_neg (fun z => hk z.2)]
  exact h2
theorem gI_ne {x : St} {o a b : Nat} {v : Int32} (h : b ≠ a) : fI (setI x o a v) o b = fI x o b := by
  show (if o = o ∧ b = a then v else x.1 o b) = _
  rw [if_neg (fun z => h z.2)]
theorem gI_at {x : St} {o a : Nat} {v : Int32} : fI (setI x o a v) o a = v := by
  show (if o = o ∧ a = a then v else x.1 o a) = _
  rw [if_pos ⟨rfl, rfl⟩]
theorem c_good {post : Int32 → St → Prop} {o : Nat} {x : St} (p : post (if fI x o 3 = -1 then 1 else 0) x) : wp_Scn_good post o x := by
  unfold wp_Scn_good
  by_cases c : fI x o 3 = -1
  · rw [if_pos c] at p
    exact bn_t c p
  · rw [if_neg c] at p
    exact bn_f c p
theorem c_refuse {post : St → Prop} {o : Nat} {v : Int32} {x : St} (p : post (if fI x o 3 = -1 then setI x o 3 v else x)) : wp_Scn_refuse post o v x := by
  unfold wp_Scn_refuse
  by_cases c : fI x o 3 = -1
  · rw [if_pos c] at p
    exact bn_t c (nm_e p)
  · rw [if_neg c] at p
    exact bn_f c p
theorem TxC.rd {x : St} {o q : Nat} {T : Nat → Int32} {n k : Nat} (h : TxC x o q T n) (hk : k < n) : rA x q (nI k) = (T k).toInt8.toInt32 ∧ vp_in (nI k) (fN x q) ∧ (rA x q (nI k)) &&& 255 = T k := by
  obtain ⟨h1, h2, h3, h4, h5, h6⟩ := h
  have e : rA x q (nI k) = (T k).toInt8.toInt32 := by
    show x.2.2.2.1 q (nI k).toNatClampNeg = _
    rw [nI_clamp (by omega)]
    exact (h6 k hk).1
  have a := (h6 k hk).2
  refine ⟨e, vp_in_nI (by omega) h5, ?_⟩
  rw [e]
  clear h6
  generalize T k = u at *
  (first | omega | (simp (disch := omega) only [Int32.le_iff_toInt_le, Int32.lt_iff_toInt_lt, z_eq, z_in, nI_toInt, z_cl, z_m1, z_sg, z_255, Int32.reduceToInt] at * <;> omega) | (simp only [Int32.le_iff_toInt_le, Int32.lt_iff_toInt_lt, z_eq, z_in, z_add, z_sub, z_mul, z_neg, z_nI, z_cl, z_sg, z_255, z_lit, Int32.reduceToInt] at * <;> omega))
theorem c_byteAt {post : Int32 → St → Prop} {o q : Nat} {x : St} {T : Nat → Int32} {n k : Nat} (h : TxC x o q T n) (hb : k < 100000) (p : post (if k < n then T k else -1) x) : wp_Scn_byteAt post o (nI k) x := by
  unfold wp_Scn_byteAt
  by_cases c : k < n
  · obtain ⟨r1, r2, r3⟩ := h.rd c
    obtain ⟨h1, h2, h3, -⟩ := h
    rw [if_pos c] at p
    exact br_f (by rw [h2]; (first | omega | (simp (disch := omega) only [Int32.le_iff_toInt_le, Int32.lt_iff_toInt_lt, z_eq, z_in, nI_toInt, z_cl, z_m1, z_sg, z_255, Int32.reduceToInt] at * <;> omega) | (simp only [Int32.le_iff_toInt_le, Int32.lt_iff_toInt_lt, z_eq, z_in, z_add, z_sub, z_mul, z_neg, z_nI, z_cl, z_sg, z_255, z_lit, Int32.reduceToInt] at * <;> omega))) ⟨q, h1, r2, by rw [r3]; exact p⟩
  · obtain ⟨h1, h2, h3, -⟩ := h
    rw [if_neg c] at p
    exact br_t (by rw [h2]; (first | omega | (simp (disch := omega) only [Int32.le_iff_toInt_le, Int32.lt_iff_toInt_lt, z_eq, z_in, nI_toInt, z_cl, z_m1, z_sg, z_255, Int32.reduceToInt] at * <;> omega) | (simp only [Int32.le_iff_toInt_le, Int32.lt_iff_toInt_lt, z_eq, z_in, z_add, z_sub, z_mul, z_neg, z_nI, z_cl, z_sg, z_255, z_lit, Int32.reduceToInt] at * <;> omega))) p
theorem sg_is {v c : Int32} (h0 : 0 ≤ v) (h1 : v ≤ 255) (hc : 0 ≤ c) (hd : c ≤ 127) : v.toInt8.toInt32 = c ↔ v = c := by
  constructor <;> intro e <;> (first | omega | (simp (disch := omega) only [Int32.le_iff_toInt_le, Int32.lt_iff_toInt_lt, z_eq, z_in, nI_toInt, z_cl, z_m1, z_sg, z_255, Int32.reduceToInt] at * <;> omega) | (simp only [Int32.le_iff_toInt_le, Int32.lt_iff_toInt_lt, z_eq, z_in, z_add, z_sub, z_mul, z_neg, z_nI, z_cl, z_sg, z_255, z_lit, Int32.reduceToInt] at * <;> omega))
theorem c_next_loop {post : Int32 → St → Prop} {o q : Nat} {x : St} {T : Nat → Int32} {n : Nat} (h : TxC x o q T n) : ∀ m k, n - k ≤ m → k ≤ 40000 → post (if skip T n k < n then T (skip T n k) else -1) (setI x o 2 (nI (skip T n k))) → wl_Scn_next_0 post (m + 1) o (setI x o 2 (nI k)) := by
  have ht : ∀ k, TxC (setI x o 2 (nI k)) o q T n := fun k => h.I (by decide)
  have e1 : ∀ k, fI (setI x o 2 (nI k)) o 1 = nI n := fun k => (ht k).2.1
  have e2 : ∀ k, fI (setI x o 2 (nI k)) o 2 = nI k := fun k => gI_at
  have h3 := h.2.2.1
  have stop : ∀ k, k ≤ 40000 → ¬ (k < n ∧ blk (T k)) → post (if skip T n k < n then T (skip T n k) else -1) (setI x o 2 (nI (skip T n k))) → j_Scn_next_52 post o (setI x o 2 (nI k)) := by
    intro k hk c p
    rw [skip_no c] at p
    unfold j_Scn_next_52
    rw [e1, e2]
    by_cases d : k < n
    · obtain ⟨r1, r2, r3⟩ := (ht k).rd d
      rw [if_pos d] at p
      exact br_f (by (first | omega | (simp (disch := omega) only [Int32.le_iff_toInt_le, Int32.lt_iff_toInt_lt, z_eq, z_in, nI_toInt, z_cl, z_m1, z_sg, z_255, Int32.reduceToInt] at * <;> omega) | (simp only [Int32.le_iff_toInt_le, Int32.lt_iff_toInt_lt, z_eq, z_in, z_add, z_sub, z_mul, z_neg, z_nI, z_cl, z_sg, z_255, z_lit, Int32.reduceToInt] at * <;> omega))) ⟨q, (ht k).1, r2, by rw [r3]; exact p⟩
    · rw [if_neg d] at p
      exact br_t (by (first | omega | (simp (disch := omega) only [Int32.le_iff_toInt_le, Int32.lt_iff_toInt_lt, z_eq, z_in, nI_toInt, z_cl, z_m1, z_sg, z_255, Int32.reduceToInt] at * <;> omega) | (simp only [Int32.le_iff_toInt_le, Int32.lt_iff_toInt_lt, z_eq, z_in, z_add, z_sub, z_mul, z_neg, z_nI, z_cl, z_sg, z_255, z_lit, Int32.reduceToInt] at * <;> omega))) p
  intro m
  induction m with
  | zero =>
    intro k hm hk p
    show j_Scn_next_0 post _ _ _
    unfold j_Scn_next_0
    rw [e1, e2]
    exact br_t (by (first | omega | (simp (disch := omega) only [Int32.le_iff_toInt_le, Int32.lt_iff_toInt_lt, z_eq, z_in, nI_toInt, z_cl, z_m1, z_sg, z_255, Int32.reduceToInt] at * <;> omega) | (simp only [Int32.le_iff_toInt_le, Int32.lt_iff_toInt_lt, z_eq, z_in, z_add, z_sub, z_mul, z_neg, z_nI, z_cl, z_sg, z_255, z_lit, Int32.reduceToInt] at * <;> omega))) (stop k hk (fun z => by omega) p)
  | succ m ih =>
    intro k hm hk p
    show j_Scn_next_0 post _ _ _
    unfold j_Scn_next_0
    rw [e1, e2]
    by_cases d : k < n
    · obtain ⟨r1, r2, r3⟩ := (ht k).rd d
      obtain ⟨-, -, -, -, -, h6⟩ := h
      have go : blk (T k) → j_Scn_next_39 post (wl_Scn_next_0 post (m + 1)) o (setI x o 2 (nI k)) := by
        intro b
        unfold j_Scn_next_39
        refine nm_r (e' := setI x o 2 (nI (k + 1))) ?_ ?_
        · rw [e2, setI_setI, nI_1]
        · exact ih (k + 1) (by omega) (by omega) (by rw [skip_go d b] at p; exact p)
      refine br_f (by (first | omega | (simp (disch := omega) only [Int32.le_iff_toInt_le, Int32.lt_iff_toInt_lt, z_eq, z_in, nI_toInt, z_cl, z_m1, z_sg, z_255, Int32.reduceToInt] at * <;> omega) | (simp only [Int32.le_iff_toInt_le, Int32.lt_iff_toInt_lt, z_eq, z_in, z_add, z_sub, z_mul, z_neg, z_nI, z_cl, z_sg, z_255, z_lit, Int32.reduceToInt] at * <;> omega))) ⟨q, (ht k).1, r2, ?_⟩
      rw [r1]
      by_cases b1 : T k = 32
      · exact br_t ((sg_is (h6 k d).2.1 (h6 k d).2.2 (by decide) (by decide)).mpr b1) (go (Or.inl b1))
      · refine br_f (fun z => b1 ((sg_is (h6 k d).2.1 (h6 k d).2.2 (by decide) (by decide)).mp z)) ⟨q, (ht k).1, r2, ?_⟩
        rw [r1]
        by_cases b2 : T k = 10
        · exact bn_t ((sg_is (h6 k d).2.1 (h6 k d).2.2 (by decide) (by decide)).mpr b2) (go (Or.inr b2))
        · exact bn_f (fun z => b2 ((sg_is (h6 k d).2.1 (h6 k d).2.2 (by decide) (by decide)).mp z)) (stop k hk (fun z => z.2.elim b1 b2) p)
    · exact br_t (by (first | omega | (simp (disch := omega) only [Int32.le_iff_toInt_le, Int32.lt_iff_toInt_lt, z_eq, z_in, nI_toInt, z_cl, z_m1, z_sg, z_255, Int32.reduceToInt] at * <;> omega) | (simp only [Int32.le_iff_toInt_le, Int32.lt_iff_toInt_lt, z_eq, z_in, z_add, z_sub, z_mul, z_neg, z_nI, z_cl, z_sg, z_255, z_lit, Int32.reduceToInt] at * <;> omega))) (stop k hk (fun z => d z.1) p)
theorem c_next {post : Int32 → St → Prop} {o q : Nat} {x : St} {T : Nat → Int32} {n k : Nat} (h : TxC x o q T n) (hk : fI x o 2 = nI k) (hb : k ≤ 40000) (p : post (if skip T n k < n then T (skip T n k) else -1) (setI x o 2 (nI (skip T n k)))) : wp_Scn_next post o x := by
  have l := c_next_loop (post := post) h (n - k) k (Nat.le_refl _) hb p
  rw [setI_self hk] at l
  exact ⟨_, l⟩
theorem c_takeSign {post : Int32 → St → Prop} {o q : Nat} {v : Int32} {x : St} {T : Nat → Int32} {n k : Nat} (h : TxC x o q T n) (hk : fI x o 2 = nI k) (hb : k ≤ 40000) (hv : 0 ≤ v)
    (p1 : skip T n k < n → T (skip T n k) = v → post 1 (setI x o 2 (nI (skip T n k + 1))))
    (p0 : ¬ (skip T n k < n ∧ T (skip T n k) = v) → post 0 (setI x o 2 (nI (skip T n k)))) : wp_Scn_takeSign post o v x := by
  unfold wp_Scn_takeSign
  refine c_next h hk hb ?_
  by_cases c : skip T n k < n
  · rw [if_pos c]
    by_cases d : T (skip T n k) = v
    · refine br_t d (nm_r (e' := setI x o 2 (nI (skip T n k + 1))) ?_ (p1 c d))
      rw [gI_at, setI_setI, nI_1]
    · exact br_f d (p0 (fun z => d z.2))
  · rw [if_neg c]
    exact br_f (fun z => by rw [← z] at hv; exact absurd hv (by decide)) (p0 (fun z => c z.1))
theorem c_needSign {post : St → Prop} {o q : Nat} {v : Int32} {x : St} {T : Nat → Int32} {n k : Nat} (h : TxC x o q T n) (hk : fI x o 2 = nI k) (hb : k ≤ 40000) (hv : 0 ≤ v)
    (p1 : fI x o 3 = -1 → skip T n k < n → T (skip T n k) = v → post (setI x o 2 (nI (skip T n k + 1))))
    (p0 : fI x o 3 = -1 → ¬ (skip T n k < n ∧ T (skip T n k) = v) → post (setI (setI x o 2 (nI (skip T n k))) o 3 (nI (skip T n k))))
    (p2 : fI x o 3 ≠ -1 → post x) : wp_Scn_needSign post o v x := by
  unfold wp_Scn_needSign
  refine c_good ?_
  by_cases c : fI x o 3 = -1
  · rw [if_pos c]
    refine br_f (by decide) (c_takeSign h hk hb hv (fun a b => bn_f (by decide) (p1 c a b)) (fun z => bn_t rfl ?_))
    rw [gI_at]
    refine c_refuse ?_
    rw [gI_ne (by decide), if_pos c]
    exact p0 c z
  · rw [if_neg c]
    exact br_t rfl (p2 c)
theorem c_isLetter {post : Int32 → St → Prop} {v : Int32} {x : St} (p : post (if ltr v then 1 else 0) x) : wp_V_isLetter post v x := by
  unfold wp_V_isLetter j_V_isLetter_12 j_V_isLetter_24 j_V_isLetter_28
  have e1 : ltr v → post 1 x := fun z => by rw [if_pos z] at p; exact p
  have e0 : ¬ ltr v → post 0 x := fun z => by rw [if_neg z] at p; exact p
  clear p
  refine ⟨fun c1 => ⟨fun c2 => e0 ?_, fun c2 => ⟨fun c3 => e0 ?_, fun c3 => e1 ?_⟩⟩, fun c1 => ⟨fun c2 => e1 ?_, fun c2 => ⟨fun c3 => e0 ?_, fun c3 => ⟨fun c4 => e0 ?_, fun c4 => e1 ?_⟩⟩⟩⟩ <;> clear e0 e1 <;> unfold ltr <;> (first | omega | (simp (disch := omega) only [Int32.le_iff_toInt_le, Int32.lt_iff_toInt_lt, z_eq, z_in, nI_toInt, z_cl, z_m1, z_sg, z_255, Int32.reduceToInt] at * <;> omega) | (simp only [Int32.le_iff_toInt_le, Int32.lt_iff_toInt_lt, z_eq, z_in, z_add, z_sub, z_mul, z_neg, z_nI, z_cl, z_sg, z_255, z_lit, Int32.reduceToInt] at * <;> omega))
theorem c_isDigit {post : Int32 → St → Prop} {v : Int32} {x : St} (p : post (if dgt v then 1 else 0) x) : wp_V_isDigit post v x := by
  unfold wp_V_isDigit j_V_isDigit_16
  have e1 : dgt v → post 1 x := fun z => by rw [if_pos z] at p; exact p
  have e0 : ¬ dgt v → post 0 x := fun z => by rw [if_neg z] at p; exact p
  clear p
  refine ⟨fun c1 => e0 ?_, fun c1 => ⟨fun c2 => e0 ?_, fun c2 => e1 ?_⟩⟩ <;> clear e0 e1 <;> unfold dgt <;> (first | omega | (simp (disch := omega) only [Int32.le_iff_toInt_le, Int32.lt_iff_toInt_lt, z_eq, z_in, nI_toInt, z_cl, z_m1, z_sg, z_255, Int32.reduceToInt] at * <;> omega) | (simp only [Int32.le_iff_toInt_le, Int32.lt_iff_toInt_lt, z_eq, z_in, z_add, z_sub, z_mul, z_neg, z_nI, z_cl, z_sg, z_255, z_lit, Int32.reduceToInt] at * <;> omega))
