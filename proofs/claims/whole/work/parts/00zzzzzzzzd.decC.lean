/-! decimal digits, class -/
theorem sk_set {x : St} {s q i : Nat} {w : Int32} (hK : SkS x) (hs : SnkId s) (hq : fR x s 0 = some q) (hi : i < 2 ^ 31) : SkS (setA x q (nI i) w.toInt8.toInt32) ∧ FK s x (setA x q (nI i) w.toInt8.toInt32) ∧ fA (setA x q (nI i) w.toInt8.toInt32) q = upd (fA x q) i w.toInt8.toInt32 ∧ (setA x q (nI i) w.toInt8.toInt32).1 = x.1 ∧ fR (setA x q (nI i) w.toInt8.toInt32) s 0 = some q ∧ fN (setA x q (nI i) w.toInt8.toInt32) q = fN x q ∧ ∀ κ, Caps x κ → Caps (setA x q (nI i) w.toInt8.toInt32) κ := by
  have eA : ∀ r, fA (setA x q (nI i) w.toInt8.toInt32) r = if r = q then upd (fA x q) i w.toInt8.toInt32 else fA x r := fun r => by
    show (if r = q then upd (x.2.2.2.1 q) (nI i).toNatClampNeg w.toInt8.toInt32 else x.2.2.2.1 r) = _
    rw [nI_clamp hi]
  refine ⟨fun t ht => ?_, ?_, by rw [eA, if_pos rfl], rfl, hq, rfl, fun κ h => h⟩
  · obtain ⟨a0, q', a1, a2, a3, a4, a5, a6⟩ := hK t ht
    refine ⟨a0, q', a1, a2, a3, a4, ?_, a6⟩
    rw [eA]
    by_cases e : q' = q
    · rw [if_pos e, ← e]
      exact sb_fitU a5 (pk_fb w)
    · rw [if_neg e]; exact a5
  · refine ⟨fun _ _ _ => rfl, fun _ _ _ => rfl, fun _ _ _ _ => rfl, fun r _ _ e => ⟨?_, rfl⟩, fun _ _ => rfl, fun _ _ => rfl, fun t r a b => Or.inl ⟨t, a, b⟩⟩
    show fA _ r = fA x r
    rw [eA, if_neg (fun z => e s rfl (by rw [z]; exact hq))]
theorem fit_id {v : Int32} (h : fits .byte (.int v) = true) : v.toInt8.toInt32 = v := by
  have h : (decide (-128 ≤ v) && decide (v ≤ 127)) = true := h
  rw [Bool.and_eq_true] at h
  have h1 := of_decide_eq_true h.1
  have h2 := of_decide_eq_true h.2
  clear h
  (first | omega | (simp (disch := omega) only [Int32.le_iff_toInt_le, Int32.lt_iff_toInt_lt, z_eq, z_in, nI_toInt, z_cl, z_m1, z_sg, z_255, Int32.reduceToInt] at * <;> omega) | (simp only [Int32.le_iff_toInt_le, Int32.lt_iff_toInt_lt, z_eq, z_in, z_add, z_sub, z_mul, z_neg, z_nI, z_cl, z_sg, z_255, z_lit, Int32.reduceToInt] at * <;> omega))
theorem vnb (w : Int32) : vp_nar .byte w = w.toInt8.toInt32 := rfl
theorem rev0 {a : Nat} (ha : a < 2 ^ 30) : nI 0 - 1 ≤ nI a := by
  rw [show nI 0 - 1 = (-1 : Int32) from rfl]
  (first | omega | (simp (disch := omega) only [Int32.le_iff_toInt_le, Int32.lt_iff_toInt_lt, z_eq, z_in, nI_toInt, z_cl, z_m1, z_sg, z_255, Int32.reduceToInt] <;> omega) | (simp only [Int32.le_iff_toInt_le, Int32.lt_iff_toInt_lt, z_eq, z_in, z_add, z_sub, z_mul, z_neg, z_nI, z_cl, z_sg, z_255, z_lit, Int32.reduceToInt] <;> omega))
theorem k_rev {post : St → Prop} {y : St} {s q a c : Nat} {l1 l4 : Int64} {l3 : Int32} {kb nb : Nat} (hs : SnkId s) (hK : SkS y) (hq : fR y s 0 = some q) (hc : c ≤ fN y q) (ha : a < 2 ^ 30)
    (p : ∀ z, SkS z → (∀ κ, Caps y κ → Caps z κ) → FK s y z → z.1 = y.1 → fR z s 0 = some q → fN z q = fN y q → (∀ i, fA z q i = if a ≤ i ∧ i < c then fA y q (a + c - 1 - i) else fA y q i) → post z) : ∃ n, wl_Snk_putDecimal_84 post n s l1 l3 l4 (nI a) (nI c - 1) kb nb y := by
  obtain ⟨cq1, cq2⟩ := cap31 hK hs hq
  by_cases c0 : c = 0
  · subst c0
    refine ⟨1, ?_⟩
    show j_Snk_putDecimal_84 post _ s l1 l3 l4 (nI a) (nI 0 - 1) kb nb y
    unfold j_Snk_putDecimal_84
    refine br_t ?_ (p y hK (fun _ h => h) (FX.refl y) rfl hq rfl (fun i => by rw [if_neg (by omega)]))
    exact rev0 ha
  · rw [show nI c - 1 = nI (c - 1 - 0) from by rw [show (1 : Int32) = nI 1 from rfl, nI_sub (by omega), Nat.sub_zero]]
    refine lp_Snk_putDecimal_84 (fun a0 _ _ _ a4 a5 _ _ z => s = a0 ∧ SkS z ∧ (∀ κ, Caps y κ → Caps z κ) ∧ FK s y z ∧ z.1 = y.1 ∧ fR z s 0 = some q ∧ fN z q = fN y q ∧ ∃ t, nI (a + t) = a4 ∧ nI (c - 1 - t) = a5 ∧ (t = 0 ∨ a + 2 * t ≤ c) ∧ ∀ i, fA z q i = if a ≤ i ∧ i < c ∧ (i < a + t ∨ c - t ≤ i) then fA y q (a + c - 1 - i) else fA y q i) (fun _ _ _ _ _ a5 _ _ _ => a5.toNatClampNeg) ?_ _ _ _ _ _ _ _ _ _ ⟨rfl, hK, fun _ h => h, FX.refl y, rfl, hq, rfl, 0, rfl, rfl, Or.inl rfl, fun i => by rw [if_neg (by omega)]⟩
    rintro R a0 a1 a2 a3 a4 a5 k n z ⟨rfl, z1, z2, z3, z4, z5, z6, t, rfl, rfl, t1, z7⟩ ih
    unfold j_Snk_putDecimal_84
    by_cases ce : c - 1 - t ≤ a + t
    · refine br_t (by (first | omega | (simp (disch := omega) only [Int32.le_iff_toInt_le, Int32.lt_iff_toInt_lt, z_eq, z_in, nI_toInt, z_cl, z_m1, z_sg, z_255, Int32.reduceToInt] <;> omega) | (simp only [Int32.le_iff_toInt_le, Int32.lt_iff_toInt_lt, z_eq, z_in, z_add, z_sub, z_mul, z_neg, z_nI, z_cl, z_sg, z_255, z_lit, Int32.reduceToInt] <;> omega))) (p z z1 z2 z3 z4 z5 z6 (fun i => ?_))
      rw [z7 i]
      by_cases w : a ≤ i ∧ i < c
      · rw [if_pos w]
        by_cases w2 : i < a + t ∨ c - t ≤ i
        · rw [if_pos ⟨w.1, w.2, w2⟩]
        · rw [if_neg (fun v => w2 v.2.2)]
          congr 1
          omega
      · rw [if_neg w, if_neg (fun v => w ⟨v.1, v.2.1⟩)]
    · refine br_f (by (first | omega | (simp (disch := omega) only [Int32.le_iff_toInt_le, Int32.lt_iff_toInt_lt, z_eq, z_in, nI_toInt, z_cl, z_m1, z_sg, z_255, Int32.reduceToInt] <;> omega) | (simp only [Int32.le_iff_toInt_le, Int32.lt_iff_toInt_lt, z_eq, z_in, z_add, z_sub, z_mul, z_neg, z_nI, z_cl, z_sg, z_255, z_lit, Int32.reduceToInt] <;> omega))) ⟨q, z5, by rw [z6]; exact vp_in_nI (by omega) (by omega), nm_e ⟨q, z5, q, z5, by rw [z6]; exact vp_in_nI (by omega) (by omega), by rw [z6]; exact vp_in_nI (by omega) (by omega), nm_e ?_⟩⟩
      rw [rA_nI (by omega), rA_nI (by omega), vnb, vnb]
      have v1 : fA z q (c - 1 - t) = fA y q (c - 1 - t) := by rw [z7, if_neg (by omega)]
      have v2 : fA z q (a + t) = fA y q (a + t) := by rw [z7, if_neg (by omega)]
      obtain ⟨m1, m2, m3, u1, u5, u6, uc⟩ := sk_set (i := a + t) (w := fA z q (c - 1 - t)) z1 hs z5 (by omega)
      have fit : ∀ i, (fA y q i).toInt8.toInt32 = fA y q i := fun i => fit_id (cq2 i)
      generalize setA z q (nI (a + t)) (fA z q (c - 1 - t)).toInt8.toInt32 = u at *
      refine ⟨q, u5, by rw [u6, z6]; exact vp_in_nI (by omega) (by omega), nm_e ?_⟩
      obtain ⟨n1, n2, n3, w1, w5, w6, wc⟩ := sk_set (i := c - 1 - t) (w := fA z q (a + t)) m1 hs u5 (by omega)
      generalize setA u q (nI (c - 1 - t)) (fA z q (a + t)).toInt8.toInt32 = g at *
      have e1 : nI (a + t) + 1 = nI (a + (t + 1)) := by rw [nI_1, Nat.add_assoc]
      have e2 : nI (c - 1 - t) + -1 = nI (c - 1 - (t + 1)) := by rw [← Int32.sub_eq_add_neg, show (1 : Int32) = nI 1 from rfl, nI_sub (by omega), Nat.sub_sub]
      rw [e1, e2]
      refine ih _ _ _ _ _ _ _ _ _ ⟨rfl, n1, fun κ h => wc κ (uc κ (z2 κ h)), FK.trans hs (FK.trans hs z3 m2) n2, w1.trans (u1.trans z4), w5, w6.trans (u6.trans z6), t + 1, rfl, rfl, Or.inr (by omega), fun i => ?_⟩ (by rw [nI_clamp (by omega), nI_clamp (by omega)]; omega)
      rw [n3, v2, fit]
      by_cases i1 : i = c - 1 - t
      · rw [i1, upd_at, if_pos (by omega)]
        congr 1
        omega
      · rw [upd_ne i1, m3, v1, fit]
        by_cases w2 : i = a + t
        · rw [w2, upd_at, if_pos (by omega)]
          congr 1
          omega
        · rw [upd_ne w2, z7]
          by_cases w3 : a ≤ i ∧ i < c ∧ (i < a + t ∨ c - t ≤ i)
          · rw [if_pos w3, if_pos (by omega)]
          · rw [if_neg w3, if_neg (by omega)]
