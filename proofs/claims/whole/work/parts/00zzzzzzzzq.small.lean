/-! small methods: output, fault, opened -/
def outA (T : List Nat) (l1 : Int32) : Int32 := if 0 ≤ l1 ∧ l1 < nI T.length then nI (T.getD l1.toNatClampNeg 0) else -1
def ftA (a b c l1 : Int32) : Int32 := if l1 = 0 then a else if l1 = 1 then b else if l1 = 2 then c else -1
theorem nn_is {l1 : Int32} {m : Nat} (h0 : ¬ l1 < 0) (h1 : l1 < nI m) (hm : m < 2 ^ 31) : ∃ n, l1 = nI n ∧ n < m := by
  obtain ⟨n, m1, rfl⟩ := wb_of32 l1
  have m2 : n < 2 ^ 31 := by
    rcases Nat.lt_or_ge n (2 ^ 31) with z | z
    · exact z
    · exact absurd (nI_big z m1) h0
  refine ⟨n, rfl, ?_⟩
  rcases Nat.lt_or_ge n m with z | z
  · exact z
  · exact absurd h1 (by (first | omega | (simp (disch := omega) only [Int32.le_iff_toInt_le, Int32.lt_iff_toInt_lt, z_eq, z_in, nI_toInt, z_cl, z_m1, z_sg, z_255, Int32.reduceToInt] <;> omega) | (simp only [Int32.le_iff_toInt_le, Int32.lt_iff_toInt_lt, z_eq, z_in, z_add, z_sub, z_mul, z_neg, z_nI, z_cl, z_sg, z_255, z_lit, Int32.reduceToInt] <;> omega)))
theorem outA_in {T : List Nat} {n : Nat} (h : n < T.length) (hT : T.length ≤ 100000) : outA T (nI n) = nI (T.getD n 0) := by
  unfold outA
  rw [if_pos ⟨by (first | omega | (simp (disch := omega) only [Int32.le_iff_toInt_le, Int32.lt_iff_toInt_lt, z_eq, z_in, nI_toInt, z_cl, z_m1, z_sg, z_255, Int32.reduceToInt] <;> omega) | (simp only [Int32.le_iff_toInt_le, Int32.lt_iff_toInt_lt, z_eq, z_in, z_add, z_sub, z_mul, z_neg, z_nI, z_cl, z_sg, z_255, z_lit, Int32.reduceToInt] <;> omega)), by (first | omega | (simp (disch := omega) only [Int32.le_iff_toInt_le, Int32.lt_iff_toInt_lt, z_eq, z_in, nI_toInt, z_cl, z_m1, z_sg, z_255, Int32.reduceToInt] <;> omega) | (simp only [Int32.le_iff_toInt_le, Int32.lt_iff_toInt_lt, z_eq, z_in, z_add, z_sub, z_mul, z_neg, z_nI, z_cl, z_sg, z_255, z_lit, Int32.reduceToInt] <;> omega))⟩, nI_clamp (by omega)]
theorem byte_bk {b : Nat} (h : b < 256) : (nI b).toInt8.toInt32 &&& 255 = nI b := by rw [bp_b, nI_255, Nat.mod_eq_of_lt h]
section
variable {x : St} {T : List Nat} {l1 : Int32}
theorem s_output {post : Int32 → St → Prop} (hL : LM x) (h : OutM x T) (hT : T.length ≤ 100000) (p : post (outA T l1) (setI x 0 0 0)) : wp_Mod_output post l1 x := by
  obtain ⟨h1, h2, h3⟩ := h
  have l75 : fN x 75 = 100000 := hL 75
  unfold wp_Mod_output
  refine nm_e ?_
  rw [show fI (setI x 0 0 0) 0 113 = fI x 0 113 from gI_ne (by decide), h1, show fN (setI x 0 0 0) 75 = 100000 from l75]
  have no : ¬ (0 ≤ l1 ∧ l1 < nI T.length) → j_Mod_output_17 post l1 (setI x 0 0 0) := fun z => by
    unfold outA at p
    rw [if_neg z] at p
    exact p
  by_cases c1 : l1 < 0
  · exact br_t c1 (no (fun z => absurd c1 (Int32.not_lt.mpr z.1)))
  refine br_f c1 ?_
  by_cases c2 : l1 < nI T.length
  rotate_left
  · exact br_f c2 (no (fun z => c2 z.2))
  obtain ⟨n, rfl, hn⟩ := nn_is c1 c2 (by omega)
  refine br_t c2 ⟨vp_in_nI (by omega) (by decide), ?_⟩
  have e : rA (setI x 0 0 0) 75 (nI n) = (nI (T.getD n 0)).toInt8.toInt32 := by rw [rA_nI (by omega)]; exact h3 n hn (by omega)
  rw [e, byte_bk (h2 _ (getD_mem hn)), ← outA_in hn hT]
  exact p
theorem k_output {post : Int32 → St → Prop} (hK : SkS x) (h : Snk x 147 T) (hT : T.length ≤ 100000) (p : post (outA T l1) x) : wp_V_output post 0 l1 x := by
  obtain ⟨-, -, h3⟩ := h
  rcases h3 with ⟨r1, b1, b2, b3, q, b4, b5, b6⟩ | ⟨r1, -⟩
  rotate_left
  · have e : roomOf 147 = 100000 := rfl
    omega
  have cq := (cap31 hK sn147 b4).1
  have no : ¬ (0 ≤ l1 ∧ l1 < nI T.length) → j_V_output_18 post 0 l1 x := fun z => by
    unfold outA at p
    rw [if_neg z] at p
    exact p
  unfold wp_V_output
  rw [show stC 0 14 = 146 from rfl, show stC 146 0 = 147 from rfl, b2]
  by_cases c1 : l1 < 0
  · exact br_t c1 (no (fun z => absurd c1 (Int32.not_lt.mpr z.1)))
  refine br_f c1 ?_
  by_cases c2 : l1 < nI T.length
  rotate_left
  · exact br_f c2 (no (fun z => c2 z.2))
  obtain ⟨n, rfl, hn⟩ := nn_is c1 c2 (by omega)
  refine br_t c2 ⟨q, b4, vp_in_nI (by omega) cq, ?_⟩
  have e : rA x q (nI n) = (nI (T.getD n 0)).toInt8.toInt32 := by rw [rA_nI (by omega)]; exact (b6 n hn).1
  rw [e, byte_bk (b1 _ (getD_mem hn)), ← outA_in hn hT]
  exact p
theorem ft_cases {l1 : Int32} (h0 : ¬ l1 < 0) (h2 : l1 ≤ 2) : l1 = nI 0 ∨ l1 = nI 1 ∨ l1 = nI 2 := by
  obtain ⟨n, rfl, hn⟩ := nn_is (m := 3) h0 (by
    rw [Int32.lt_iff_toInt_lt]
    rw [Int32.le_iff_toInt_le] at h2
    have e2 : (2 : Int32).toInt = 2 := rfl
    have e3 : (nI 3).toInt = 3 := rfl
    omega) (by decide)
  have : n = 0 ∨ n = 1 ∨ n = 2 := by omega
  rcases this with z | z | z
  · rw [z]; exact Or.inl rfl
  · rw [z]; exact Or.inr (Or.inl rfl)
  · rw [z]; exact Or.inr (Or.inr rfl)
theorem ft_no {a b c l1 : Int32} (h : l1 < 0 ∨ ¬ l1 ≤ 2) : ftA a b c l1 = -1 := by
  unfold ftA
  rw [if_neg (fun z => ?_), if_neg (fun z => ?_), if_neg (fun z => ?_)]
  · rw [z] at h; exact absurd h (by decide)
  · rw [z] at h; exact absurd h (by decide)
  · rw [z] at h; exact absurd h (by decide)
theorem s_fault {post : Int32 → St → Prop} (hL : LM x) (p : post (ftA (fA x 52 0) (fA x 52 1) (fA x 52 2) l1) (setI x 0 0 0)) : wp_Mod_fault post l1 x := by
  have l52 : fN x 52 = 3 := hL 52
  unfold wp_Mod_fault
  refine nm_e ?_
  rw [show fN (setI x 0 0 0) 52 = 3 from l52]
  by_cases c1 : l1 < 0
  · rw [ft_no (Or.inl c1)] at p
    exact br_t c1 p
  refine br_f c1 ?_
  by_cases c2 : l1 ≤ 2
  rotate_left
  · rw [ft_no (Or.inr c2)] at p
    exact br_f c2 p
  rcases ft_cases c1 c2 with rfl | rfl | rfl
  · exact br_t c2 ⟨vp_in_nI (by decide) (by decide), by rw [rA_nI (by decide)]; exact p⟩
  · exact br_t c2 ⟨vp_in_nI (by decide) (by decide), by rw [rA_nI (by decide)]; exact p⟩
  · exact br_t c2 ⟨vp_in_nI (by decide) (by decide), by rw [rA_nI (by decide)]; exact p⟩
theorem k_fault {post : Int32 → St → Prop} (hL : LC x) (p : post (ftA (fA x 98 0) (fA x 98 1) (fA x 98 2) l1) x) : wp_V_fault post 0 l1 x := by
  have l98 : fN x 98 = 3 := hL 98 (by decide)
  unfold wp_V_fault
  rw [show stC 0 9 = 96 from rfl, show stC 96 4 = 98 from rfl, l98]
  by_cases c1 : l1 < 0
  · rw [ft_no (Or.inl c1)] at p
    exact br_t c1 p
  refine br_f c1 ?_
  by_cases c2 : l1 ≤ 2
  rotate_left
  · rw [ft_no (Or.inr c2)] at p
    exact br_f c2 p
  rcases ft_cases c1 c2 with rfl | rfl | rfl
  · exact br_t c2 ⟨vp_in_nI (by decide) (by decide), by rw [rA_nI (by decide)]; exact p⟩
  · exact br_t c2 ⟨vp_in_nI (by decide) (by decide), by rw [rA_nI (by decide)]; exact p⟩
  · exact br_t c2 ⟨vp_in_nI (by decide) (by decide), by rw [rA_nI (by decide)]; exact p⟩
end
