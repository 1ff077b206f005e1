/-! a number in decimal, class -/
theorem HL.of {x : St} {s q : Nat} {D : List Nat} (h1 : fI x s 1 = nI D.length) (h2 : fI x s 2 = 0) (hq : fR x s 0 = some q) (hc : D.length ≤ fN x q) (hb : ∀ b, b ∈ D → b < 256) (hD : ∀ i, i < D.length → fA x q i = (nI (D.getD i 0)).toInt8.toInt32) : HL x s D := by
  refine ⟨hb, h1, h2, q, hq, hc, fun i hi => ?_⟩
  rw [hD i hi]
  have := hb _ (getD_mem hi)
  unfold bT
  refine ⟨rfl, ?_, ?_⟩ <;> (first | omega | (simp (disch := omega) only [Int32.le_iff_toInt_le, Int32.lt_iff_toInt_lt, z_eq, z_in, nI_toInt, z_cl, z_m1, z_sg, z_255, Int32.reduceToInt] <;> omega) | (simp only [Int32.le_iff_toInt_le, Int32.lt_iff_toInt_lt, z_eq, z_in, z_add, z_sub, z_mul, z_neg, z_nI, z_cl, z_sg, z_255, z_lit, Int32.reduceToInt] <;> omega))
theorem rev_at {C : List Nat} {i : Nat} (h : i < C.length) : C.reverse.getD i 0 = C.getD (C.length - 1 - i) 0 := by
  rw [List.getD_eq_getElem?_getD, List.getD_eq_getElem?_getD, List.getElem?_reverse h]
def dgs (n i : Nat) : List Nat := (List.range i).map (fun j => 48 + n / 10 ^ j % 10)
theorem dgs_succ (n i : Nat) : dgs n (i + 1) = dgs n i ++ [48 + n / 10 ^ i % 10] := by
  unfold dgs
  rw [List.range_succ, List.map_append]
  rfl
theorem dgs_rev (n : Nat) : ∀ i, (dgs n (i + 1)).reverse = dcF n i := by
  intro i
  induction i with
  | zero => rfl
  | succ i ih =>
    rw [dgs_succ, List.reverse_append, ih]
    rfl
theorem nd_ex {n : Nat} (h : n ≤ 9223372036854775808) : ∃ j, j ≤ 18 ∧ n / 10 ^ j ≤ 9 ∧ (j = 0 ∨ 10 ≤ n / 10 ^ (j - 1)) ∧ nd10 n = j := by
  have key : ∀ m, m ≤ 18 → n / 10 ^ m ≤ 9 → ∃ j, j ≤ 18 ∧ n / 10 ^ j ≤ 9 ∧ (j = 0 ∨ 10 ≤ n / 10 ^ (j - 1)) := by
    intro m
    induction m with
    | zero => intro _ h; exact ⟨0, by decide, h, Or.inl rfl⟩
    | succ m ih =>
      intro hm h
      by_cases c : n / 10 ^ m ≤ 9
      · exact ih (by omega) c
      · exact ⟨m + 1, hm, h, Or.inr (by rw [Nat.add_sub_cancel]; omega)⟩
  have h18 : n / 10 ^ 18 ≤ 9 := by
    have : n / 10 ^ 18 ≤ 9223372036854775808 / 10 ^ 18 := Nat.div_le_div_right h
    have e : 9223372036854775808 / 10 ^ 18 = 9 := by decide +kernel
    omega
  obtain ⟨j, j1, j2, j3⟩ := key 18 (Nat.le_refl _) h18
  exact ⟨j, j1, j2, j3, nd_is (by omega) j2 j3⟩
theorem dig_w {q : Int64} {n i : Nat} (h : q.toInt.natAbs = n / 10 ^ i) : (48 : Int32) + ((if 0 < (q - q / 10 * 10) then (q - q / 10 * 10) else -(q - q / 10 * 10)) : Int64).toInt32 = nI (48 + n / 10 ^ i % 10) := by
  have m := (md10 (q := q)).1
  rw [h] at m
  generalize q - q / 10 * 10 = d at *
  have lt : n / 10 ^ i % 10 < 10 := Nat.mod_lt _ (by decide)
  generalize n / 10 ^ i % 10 = k at *
  have e : (if 0 < d then d else -d) = lN k := by
    by_cases c : 0 < d
    · rw [if_pos c]
      rw [Int64.lt_iff_toInt_lt] at c
      have c : (0 : Int) < d.toInt := c
      exact of_ti (by omega)
    · rw [if_neg c]
      rw [Int64.lt_iff_toInt_lt] at c
      have c : ¬ (0 : Int) < d.toInt := c
      refine of_ti ?_
      rw [Int64.toInt_neg, Int.bmod_eq_of_le (by omega) (by omega)]
      omega
  rw [e, lN_i, show (48 : Int32) = nI 48 from rfl, nI_add]
section
variable {s : Nat} {B : List Nat} {v : Int64}
/-- what stands behind a place is turned round -/
theorem k_round {post : St → Prop} {x : St} {κ : Nat → Nat} {C : List Nat} {l4 : Int64} {l6 : Int32} {a kb nb : Nat} (hs : SnkId s) (hK : SkS x) (hC : Caps x κ) (h : Snk x s (B ++ C)) (ha : a < 2 ^ 30) (ha2 : B.length ≤ roomOf s → a = B.length) (p : ∀ y, SkS y → Caps y κ → FK s x y → Snk y s (B ++ C.reverse) → post y) : j_Snk_putDecimal_73 post s v (nI a) l4 l6 kb nb x := by
  have hl : (B ++ C.reverse).length = (B ++ C).length := by rw [List.length_append, List.length_append, List.length_reverse]
  unfold j_Snk_putDecimal_73
  obtain ⟨h1, h2, h3⟩ := h
  have fin : ∀ {c q}, fI x s 1 = nI c → fR x s 0 = some q → c ≤ fN x q → (∀ z, SkS z → (∀ κ, Caps x κ → Caps z κ) → FK s x z → z.1 = x.1 → fR z s 0 = some q → fN z q = fN x q → (∀ i, fA z q i = if a ≤ i ∧ i < c then fA x q (a + c - 1 - i) else fA x q i) → post z) → ∀ v9 : Int32, v9 = fI x s 1 - 1 → ∃ n, wl_Snk_putDecimal_84 post n s v (nI a) l4 (nI a) v9 kb nb x := fun {c q} c1 c2 c3 pz v9 e => by
    rw [e, c1]
    exact k_rev hs hK c2 c3 ha pz
  rcases h3 with ⟨r1, r2⟩ | ⟨r1, r2, c, q, r3, r4, r5⟩
  · obtain ⟨b1, b2, b3, q, b4, b5, b6⟩ := r2
    have ea : a = B.length := ha2 (by rw [List.length_append] at r1; omega)
    refine fin b2 b4 b5 (fun z z1 z2 z3 z4 z5 z6 z7 => p z z1 (z2 κ hC) z3 ?_)
    have ei : ∀ k, fI z s k = fI x s k := fun k => by show z.1 s k = x.1 s k; rw [z4]
    refine ⟨by rw [ei]; exact h1, by rw [ei]; exact h2, Or.inl ⟨by rw [hl]; exact r1, HL.of (by rw [ei, hl]; exact b2) (by rw [ei]; exact b3) z5 (by rw [z6, hl]; exact b5) (fun b hb => ?_) (fun i hi => ?_)⟩⟩
    · refine b1 b ?_
      rcases List.mem_append.mp hb with w | w
      · exact List.mem_append.mpr (Or.inl w)
      · exact List.mem_append.mpr (Or.inr (List.mem_reverse.mp w))
    · rw [hl] at hi
      have lab : (B ++ C).length = B.length + C.length := List.length_append
      rw [z7 i, ea]
      by_cases w : B.length ≤ i
      · rw [if_pos ⟨w, hi⟩, (b6 _ (by omega)).1]
        obtain ⟨j, rfl⟩ : ∃ j, i = B.length + j := ⟨i - B.length, by omega⟩
        unfold bT
        rw [getD_r, rev_at (by omega), show B.length + (B ++ C).length - 1 - (B.length + j) = B.length + (C.length - 1 - j) by omega, getD_r]
      · rw [if_neg (fun z => w z.1), (b6 i hi).1]
        unfold bT
        rw [getD_l (by omega), getD_l (by omega)]
  · refine fin r3 r4 r5 (fun z z1 z2 z3 z4 z5 z6 z7 => p z z1 (z2 κ hC) z3 ?_)
    have ei : ∀ k, fI z s k = fI x s k := fun k => by show z.1 s k = x.1 s k; rw [z4]
    exact ⟨by rw [ei]; exact h1, by rw [ei]; exact h2, Or.inr ⟨by rw [hl]; exact r1, by rw [ei]; exact r2, c, q, by rw [ei]; exact r3, z5, by rw [z6]; exact r5⟩⟩
theorem k_decL (hs : SnkId s) {n N : Nat} (hn : v.toInt.natAbs = n) (hN : N ≤ 18) (hN1 : n / 10 ^ N ≤ 9) (hN2 : N = 0 ∨ 10 ≤ n / 10 ^ (N - 1)) (hN3 : nd10 n = N) : ∀ d i κ, i + d = N + 1 → (∀ t, SnkId t → κ t ≤ roomOf t) → ∃ κ', Kle κ κ' ∧ ∀ (x : St) (post : St → Prop) kb nb a (l4 : Int64), SkS x → Caps x κ → Snk x s (B ++ dgs n i) → a < 2 ^ 30 → (B.length ≤ roomOf s → a = B.length) → l4.toInt.natAbs = n / 10 ^ i → KP κ ≤ kb + KP κ' → NP κ ≤ nb + NP κ' → (∀ y, SkS y → Caps y κ' → FK s x y → Snk y s (B ++ decB v) → post y) → wl_Snk_putDecimal_11 post (d + 1) s v (nI a) l4 (nI i) kb nb x := by
  intro d
  induction d with
  | zero =>
    intro i κ hi hκ
    have ei : i = N + 1 := by omega
    subst ei
    have z0 : n / 10 ^ (N + 1) = 0 := by
      rw [Nat.pow_succ, ← Nat.div_div_eq_div_mul]
      exact Nat.div_eq_of_lt (by omega)
    have dr : (dgs n (N + 1)).reverse = dcF n N := dgs_rev n N
    by_cases c : v < 0
    · have de : decB v = (dgs n (N + 1) ++ [45]).reverse := by
        unfold decB
        rw [if_pos c, hn, hN3, List.reverse_append, dr]
        rfl
      obtain ⟨κ1, m1, f1⟩ := k_put (κ := κ) (s := s) (b := 45) (w := 45) (B := B ++ dgs n (N + 1)) (Pre := fun _ => True) hs hκ (by decide) rfl
      refine ⟨κ1, m1, fun x post kb nb a l4 hK hC h ha ha2 hl hk hb p => ?_⟩
      show j_Snk_putDecimal_11 post _ s v (nI a) l4 (nI (N + 1)) kb nb x
      unfold j_Snk_putDecimal_11 j_Snk_putDecimal_61
      have l0 : l4 = 0 := by
        rw [z0] at hl
        have : l4 = lN 0 := of_ti (by omega)
        rw [this]; rfl
      refine br_f (by (first | omega | (simp (disch := omega) only [Int32.le_iff_toInt_le, Int32.lt_iff_toInt_lt, z_eq, z_in, nI_toInt, z_cl, z_m1, z_sg, z_255, Int32.reduceToInt] <;> omega) | (simp only [Int32.le_iff_toInt_le, Int32.lt_iff_toInt_lt, z_eq, z_in, z_add, z_sub, z_mul, z_neg, z_nI, z_cl, z_sg, z_255, z_lit, Int32.reduceToInt] <;> omega))) (br_f (by (first | omega | (simp (disch := omega) only [Int32.le_iff_toInt_le, Int32.lt_iff_toInt_lt, z_eq, z_in, nI_toInt, z_cl, z_m1, z_sg, z_255, Int32.reduceToInt] <;> omega) | (simp only [Int32.le_iff_toInt_le, Int32.lt_iff_toInt_lt, z_eq, z_in, z_add, z_sub, z_mul, z_neg, z_nI, z_cl, z_sg, z_255, z_lit, Int32.reduceToInt] <;> omega))) (br_t ((lg_cmp_eq _ _).mpr l0) (br_f (fun z => ?_) ⟨kb, nb, 0, 0, by omega, by omega, f1 x _ kb nb hK hC h trivial hk hb (fun y y1 y2 y3 y4 => ?_)⟩)))
      · have := (lg_cmp_ge _ _).mp z
        rw [Int64.le_iff_toInt_le] at this
        rw [Int64.lt_iff_toInt_lt] at c
        omega
      · rw [List.append_assoc] at y4
        exact k_round hs y1 y2 y4 ha ha2 (fun z z1 z2 z3 z4 => p z z1 z2 (FK.trans hs y3 z3) (by rw [de]; exact z4))
    · have de : decB v = (dgs n (N + 1)).reverse := by
        unfold decB
        rw [if_neg c, hn, hN3, dr]
        rfl
      refine ⟨κ, Kle.refl hκ, fun x post kb nb a l4 hK hC h ha ha2 hl hk hb p => ?_⟩
      show j_Snk_putDecimal_11 post _ s v (nI a) l4 (nI (N + 1)) kb nb x
      unfold j_Snk_putDecimal_11 j_Snk_putDecimal_61
      have l0 : l4 = 0 := by
        rw [z0] at hl
        have : l4 = lN 0 := of_ti (by omega)
        rw [this]; rfl
      refine br_f (by (first | omega | (simp (disch := omega) only [Int32.le_iff_toInt_le, Int32.lt_iff_toInt_lt, z_eq, z_in, nI_toInt, z_cl, z_m1, z_sg, z_255, Int32.reduceToInt] <;> omega) | (simp only [Int32.le_iff_toInt_le, Int32.lt_iff_toInt_lt, z_eq, z_in, z_add, z_sub, z_mul, z_neg, z_nI, z_cl, z_sg, z_255, z_lit, Int32.reduceToInt] <;> omega))) (br_f (by (first | omega | (simp (disch := omega) only [Int32.le_iff_toInt_le, Int32.lt_iff_toInt_lt, z_eq, z_in, nI_toInt, z_cl, z_m1, z_sg, z_255, Int32.reduceToInt] <;> omega) | (simp only [Int32.le_iff_toInt_le, Int32.lt_iff_toInt_lt, z_eq, z_in, z_add, z_sub, z_mul, z_neg, z_nI, z_cl, z_sg, z_255, z_lit, Int32.reduceToInt] <;> omega))) (br_t ((lg_cmp_eq _ _).mpr l0) (br_t ((lg_cmp_ge _ _).mpr ?_) (k_round hs hK hC h ha ha2 (fun z z1 z2 z3 z4 => p z z1 z2 z3 (by rw [de]; exact z4))))))
      rw [Int64.le_iff_toInt_le]
      rw [Int64.lt_iff_toInt_lt] at c
      omega
  | succ d ih =>
    intro i κ hi hκ
    have b256 : 48 + n / 10 ^ i % 10 < 256 := by have := Nat.mod_lt (n / 10 ^ i) (show 0 < 10 by decide); omega
    obtain ⟨κ1, m1, f1⟩ := k_put (κ := κ) (s := s) (b := 48 + n / 10 ^ i % 10) (w := nI (48 + n / 10 ^ i % 10)) (B := B ++ dgs n i) (Pre := fun _ => True) hs hκ b256 rfl
    obtain ⟨κ2, m2, f2⟩ := ih (i + 1) κ1 (by omega) (fun t ht => (m1 t ht).2)
    refine ⟨κ2, m1.trans m2, fun x post kb nb a l4 hK hC h ha ha2 hl hk hb p => ?_⟩
    have nz : i = 0 ∨ ¬ l4 = 0 := by
      by_cases c : i = 0
      · exact Or.inl c
      · right
        intro z
        rw [z] at hl
        have hl : 0 = n / 10 ^ i := hl
        rcases hN2 with w | w
        · omega
        · have : n / 10 ^ (N - 1) ≤ n / 10 ^ (i - 1) := Nat.div_le_div_left (Nat.pow_le_pow_right (by decide) (by omega)) (Nat.pow_pos (by decide))
          have e : n / 10 ^ i = n / 10 ^ (i - 1) / 10 := by
            rw [Nat.div_div_eq_div_mul, ← Nat.pow_succ, show (i - 1).succ = i by omega]
          omega
    have hnn : j_Snk_putDecimal_30 post (wl_Snk_putDecimal_11 post (d + 1)) s v (nI a) l4 (nI i) kb nb x := by
      unfold j_Snk_putDecimal_30
      rw [dig_w hl]
      refine bseq m1 m2 hk hb (fun k1 n1 k2 n2 b1 b2 b3 b4 => f1 x _ k1 n1 hK hC h trivial b1 b2 (fun y y1 y2 y3 y4 => nm_e ?_))
      rw [List.append_assoc, ← dgs_succ] at y4
      rw [nI_1]
      refine f2 y post k2 n2 a (l4 / 10) y1 y2 y4 ha ha2 ?_ b3 b4 (fun z z1 z2 z3 z4 => p z z1 z2 (FK.trans hs y3 z3) z4)
      have e10 : (l4 / 10).toInt = l4.toInt.tdiv (10 : Nat) := dv_abs (m := 10) (by decide) (by decide) (Or.inr (by decide))
      rw [e10, td_abs, hl, Nat.div_div_eq_div_mul, ← Nat.pow_succ]
    show j_Snk_putDecimal_11 post (wl_Snk_putDecimal_11 post (d + 1)) s v (nI a) l4 (nI i) kb nb x
    unfold j_Snk_putDecimal_11
    refine br_f (by (first | omega | (simp (disch := omega) only [Int32.le_iff_toInt_le, Int32.lt_iff_toInt_lt, z_eq, z_in, nI_toInt, z_cl, z_m1, z_sg, z_255, Int32.reduceToInt] <;> omega) | (simp only [Int32.le_iff_toInt_le, Int32.lt_iff_toInt_lt, z_eq, z_in, z_add, z_sub, z_mul, z_neg, z_nI, z_cl, z_sg, z_255, z_lit, Int32.reduceToInt] <;> omega))) ?_
    rcases nz with z | z
    · exact br_t (by rw [z]; rfl) hnn
    · by_cases c : i = 0
      · exact br_t (by rw [c]; rfl) hnn
      · exact br_f (by (first | omega | (simp (disch := omega) only [Int32.le_iff_toInt_le, Int32.lt_iff_toInt_lt, z_eq, z_in, nI_toInt, z_cl, z_m1, z_sg, z_255, Int32.reduceToInt] <;> omega) | (simp only [Int32.le_iff_toInt_le, Int32.lt_iff_toInt_lt, z_eq, z_in, z_add, z_sub, z_mul, z_neg, z_nI, z_cl, z_sg, z_255, z_lit, Int32.reduceToInt] <;> omega))) (br_f (fun w => z ((lg_cmp_eq _ _).mp w)) hnn)
theorem k_dec {κ : Nat → Nat} {Pre : St → Prop} (hs : SnkId s) (hκ : ∀ t, SnkId t → κ t ≤ roomOf t) : App κ s B (decB v) Pre (fun post kb nb x => wp_Snk_putDecimal post s v kb nb x) := by
  obtain ⟨b1, b2⟩ := i64_bd v
  obtain ⟨N, n1, n2, n3, n4⟩ := nd_ex (n := v.toInt.natAbs) (by omega)
  obtain ⟨κ1, m1, f1⟩ := k_decL (B := B) (v := v) hs rfl n1 n2 n3 n4 (N + 1) 0 κ (Nat.zero_add _) hκ
  refine ⟨κ1, m1, fun x post kb nb hK hC h _ hk hb p => ?_⟩
  show wp_Snk_putDecimal post s v kb nb x
  unfold wp_Snk_putDecimal
  have ex : ∃ a, fI x s 1 = nI a ∧ a < 2 ^ 30 ∧ (B.length ≤ roomOf s → a = B.length) := by
    have rb := (room_bd s).2
    rcases h.2.2 with ⟨r1, r2⟩ | ⟨r1, r2, c, q, r3, r4, r5⟩
    · exact ⟨B.length, r2.2.1, by omega, fun _ => rfl⟩
    · refine ⟨c, r3, ?_, fun z => by omega⟩
      obtain ⟨-, q', a1, -, -, a4, -⟩ := hK s hs
      rw [r4] at a1
      rw [← Option.some.inj a1] at a4
      omega
  obtain ⟨a, a1, a2, a3⟩ := ex
  rw [a1]
  refine nm_e ⟨_, f1 x post kb nb a v hK hC (by rw [show dgs v.toInt.natAbs 0 = [] from rfl, List.append_nil]; exact h) a2 a3 ?_ hk hb p⟩
  rw [Nat.pow_zero, Nat.div_one]
end
