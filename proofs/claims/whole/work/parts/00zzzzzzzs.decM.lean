/-! decimal digits, words and texts as they are written; the model -/
def nd10 (n : Nat) : Nat := ((List.range 20).filter (fun j => decide (n / 10 ^ j ≤ 9))).headD 0
def dcF (n : Nat) : Nat → List Nat
  | 0 => [48 + n / 10 ^ 0 % 10]
  | i + 1 => (48 + n / 10 ^ (i + 1) % 10) :: dcF n i
def decB (v : Int64) : List Nat := (if v < 0 then [45] else []) ++ dcF v.toInt.natAbs (nd10 v.toInt.natAbs)
def hx (d : Nat) : Nat := if d < 10 then 48 + d else 87 + d
def qt1 (c : Nat) : List Nat := if c < 32 ∨ 126 < c then [92, 120, hx (c / 16), hx (c % 16)] else if c = 39 ∨ c = 92 then [92, c] else [c]
def qtB (t : List Int32) : List Nat := 39 :: ((t.map (fun v => qt1 (uI v))).flatten ++ [39])
def vlB (ty : Nat) (v : PV) : List Nat := if ty = 3 then qtB v.2 else if ty = 0 then (if v.1 = 1 then [116, 114, 117, 101] else [102, 97, 108, 115, 101]) else decB v.1
theorem nd_is {n j : Nat} (hj : j < 20) (h1 : n / 10 ^ j ≤ 9) (h2 : j = 0 ∨ 10 ≤ n / 10 ^ (j - 1)) : nd10 n = j := by
  refine hd_is hj (decide_eq_true h1) (fun g hg => decide_eq_false (fun z => ?_))
  rcases h2 with h2 | h2
  · omega
  · have : n / 10 ^ (j - 1) ≤ n / 10 ^ g := Nat.div_le_div_left (Nat.pow_le_pow_right (by decide) (by omega)) (Nat.pow_pos (by decide))
    omega
theorem i64_bd (v : Int64) : -9223372036854775808 ≤ v.toInt ∧ v.toInt < 9223372036854775808 := ⟨Int64.le_toInt v, Int64.toInt_lt v⟩
theorem lN_ti' {n : Nat} (h : n < 2 ^ 63) : (lN n).toInt = (n : Int) := by rw [lN_int (by omega), if_pos h]
theorem dv_abs {v : Int64} {m : Nat} (hm : 1 ≤ m) (hm2 : m < 2 ^ 63) (h : v.toInt ≠ -9223372036854775808 ∨ m ≠ 0) : (v / lN m).toInt = v.toInt.tdiv m := by
  obtain ⟨b1, b2⟩ := i64_bd v
  rw [Int64.toInt_div, lN_ti' hm2]
  have na : (v.toInt.tdiv (m : Int)).natAbs = v.toInt.natAbs / m := by rw [Int.natAbs_tdiv]; rfl
  have le : v.toInt.natAbs / m ≤ v.toInt.natAbs := Nat.div_le_self _ _
  have bd : v.toInt.natAbs ≤ 9223372036854775808 := by omega
  by_cases c : 0 ≤ v.toInt
  · have s : 0 ≤ v.toInt.tdiv (m : Int) := Int.tdiv_nonneg c (by omega)
    rw [Int.bmod_eq_of_le (by omega) (by omega)]
  · have s : v.toInt.tdiv (m : Int) ≤ 0 := by
      have : 0 ≤ (-v.toInt).tdiv (m : Int) := Int.tdiv_nonneg (by omega) (by omega)
      rw [Int.neg_tdiv] at this
      omega
    rw [Int.bmod_eq_of_le (by omega) (by omega)]
theorem td_abs {z : Int} {m : Nat} : (z.tdiv (m : Int)).natAbs = z.natAbs / m := by rw [Int.natAbs_tdiv]; rfl
theorem td_sg {z : Int} {m : Nat} : (0 ≤ z → 0 ≤ z.tdiv (m : Int)) ∧ (z ≤ 0 → z.tdiv (m : Int) ≤ 0) := by
  refine ⟨fun h => Int.tdiv_nonneg h (by omega), fun h => ?_⟩
  have : 0 ≤ (-z).tdiv (m : Int) := Int.tdiv_nonneg (by omega) (by omega)
  rw [Int.neg_tdiv] at this
  omega
/-- the last digit, without its sign -/
theorem md10 {q : Int64} : (q - q / 10 * 10).toInt.natAbs = q.toInt.natAbs % 10 ∧ (0 ≤ q.toInt → 0 ≤ (q - q / 10 * 10).toInt) ∧ (q.toInt ≤ 0 → (q - q / 10 * 10).toInt ≤ 0) := by
  obtain ⟨b1, b2⟩ := i64_bd q
  have e1 : (q / 10).toInt = q.toInt.tdiv (10 : Nat) := dv_abs (m := 10) (by decide) (by decide) (Or.inr (by decide))
  have a := td_abs (z := q.toInt) (m := 10)
  have s := td_sg (z := q.toInt) (m := 10)
  generalize q.toInt.tdiv ((10 : Nat) : Int) = t at *
  have dm := Nat.div_add_mod q.toInt.natAbs 10
  have e2 : (q / 10 * 10).toInt = t * 10 := by
    rw [Int64.toInt_mul, e1, show (10 : Int64).toInt = 10 from rfl, Int.bmod_eq_of_le (by omega) (by omega)]
  have e3 : (q - q / 10 * 10).toInt = q.toInt - t * 10 := by
    rw [Int64.toInt_sub, e2]
    by_cases c : 0 ≤ q.toInt
    · have := s.1 c
      rw [Int.bmod_eq_of_le (by omega) (by omega)]
    · have := s.2 (by omega)
      rw [Int.bmod_eq_of_le (by omega) (by omega)]
  rw [e3]
  by_cases c : 0 ≤ q.toInt
  · have := s.1 c
    exact ⟨by omega, fun _ => by omega, fun h => by omega⟩
  · have := s.2 (by omega)
    exact ⟨by omega, fun h => by omega, fun _ => by omega⟩
theorem of_ti {d : Int64} {k : Nat} (h : d.toInt = k) : d = lN k := by
  have b := i64_bd d
  apply Int64.toInt_inj.mp
  rw [h, lN_ti' (by omega)]
/-- the output of the model -/
def OutM (x : St) (B : List Nat) : Prop := fI x 0 113 = nI B.length ∧ (∀ b, b ∈ B → b < 256) ∧ ∀ i, i < B.length → i < 100000 → fA x 75 i = (nI (B.getD i 0)).toInt8.toInt32
abbrev FrTl (x y : St) : Prop := Fg (fun o k => o = 0 ∧ k = 113) no2 no2 (fun a => a = 75) no1 x y
theorem vn_b (v : Int32) : vp_nar .byte v.toInt8.toInt32 = v.toInt8.toInt32 := by
  show (v.toInt8.toInt32).toInt8.toInt32 = _
  rw [Int8.toInt8_toInt32]
section
variable {x y : St} {B : List Nat}
theorem FrTl.lm (f : FrTl x y) (h : LM x) : LM y := fun o => (f.len o).trans (h o)
theorem s_tell {post : St → Prop} {b : Nat} (hL : LM x) (h : OutM x B) (hB : B.length < 2 ^ 30) (hb : b < 256) (p : ∀ y, FrTl x y → OutM y (B ++ [b]) → post y) : wp_Mod_tell post (nI b) x := by
  obtain ⟨h1, h2, h3⟩ := h
  have l75 : fN x 75 = 100000 := hL 75
  have hm : ∀ c, c ∈ B ++ [b] → c < 256 := fun c hc => by
    rcases List.mem_append.mp hc with z | z
    · exact h2 c z
    · rw [List.mem_singleton.mp z]; exact hb
  have ll : (B ++ [b]).length = B.length + 1 := by rw [List.length_append]; rfl
  unfold wp_Mod_tell j_Mod_tell_23
  rw [h1, l75]
  by_cases c : B.length < 100000
  · refine br_f (by (first | omega | (simp (disch := omega) only [Int32.le_iff_toInt_le, Int32.lt_iff_toInt_lt, z_eq, z_in, nI_toInt, z_cl, z_m1, z_sg, z_255, Int32.reduceToInt] <;> omega) | (simp only [Int32.le_iff_toInt_le, Int32.lt_iff_toInt_lt, z_eq, z_in, z_add, z_sub, z_mul, z_neg, z_nI, z_cl, z_sg, z_255, z_lit, Int32.reduceToInt] <;> omega))) ⟨vp_in_nI c (by decide), nm_e (nm_e (p _ (Fg.trans (Fg.a rfl) (Fg.i ⟨rfl, rfl⟩)) ⟨?_, hm, fun i hi hi2 => ?_⟩))⟩
    · rw [gI_at, show fI (setA x 75 (nI B.length) (vp_nar .byte (nI b).toInt8.toInt32)) 0 113 = nI B.length from h1, nI_1, ll]
    · rw [ll] at hi
      show fA (setA x 75 (nI B.length) (vp_nar .byte (nI b).toInt8.toInt32)) 75 i = _
      by_cases e : i = B.length
      · rw [e, gA_on (by omega), vn_b, getD_n]
      · rw [gA_off (by omega) e, h3 i (by omega) hi2, getD_l (by omega)]
  · refine br_t (by (first | omega | (simp (disch := omega) only [Int32.le_iff_toInt_le, Int32.lt_iff_toInt_lt, z_eq, z_in, nI_toInt, z_cl, z_m1, z_sg, z_255, Int32.reduceToInt] <;> omega) | (simp only [Int32.le_iff_toInt_le, Int32.lt_iff_toInt_lt, z_eq, z_in, z_add, z_sub, z_mul, z_neg, z_nI, z_cl, z_sg, z_255, z_lit, Int32.reduceToInt] <;> omega))) (nm_e (p _ (Fg.i ⟨rfl, rfl⟩) ⟨?_, hm, fun i hi hi2 => ?_⟩))
    · rw [gI_at, nI_1, ll]
    · rw [ll] at hi
      show fA x 75 i = _
      rw [h3 i (by omega) hi2, getD_l (by omega)]
theorem s_tellNumber {post : St → Prop} {v : Int64} (hL : LM x) (h : OutM x B) (hB : B.length < 2 ^ 29) (p : ∀ y, FrTl x y → OutM y (B ++ decB v) → post y) : wp_Mod_tellNumber post v x := by
  obtain ⟨b1, b2⟩ := i64_bd v
  generalize hn : v.toInt.natAbs = n at *
  have n63 : n ≤ 2 ^ 63 := by omega
  have p18 : ∀ j, j ≤ 18 → 10 ^ j < 2 ^ 63 := fun j hj => Nat.lt_of_le_of_lt (Nat.pow_le_pow_right (by decide) hj) (by decide)
  -- the digits
  have dig : ∀ (y0 : St) (B0 : List Nat) (j : Nat) (most : Int64), j ≤ 18 → LM y0 → OutM y0 B0 → B0.length < 2 ^ 29 + 1 → (∀ y, FrTl y0 y → OutM y (B0 ++ dcF n j) → post y) → ∃ nn, wl_Mod_tellNumber_46 post nn v most (lN (10 ^ j)) y0 := fun y0 B0 j most hj hL0 h0 hB0 q => by
    have key : ∀ i k B1 y1, i ≤ 18 → k = i + 2 → LM y1 → OutM y1 B1 → B1.length + i < 2 ^ 29 + 30 → (∀ y, FrTl y1 y → OutM y (B1 ++ dcF n i) → post y) → wl_Mod_tellNumber_46 post k v most (lN (10 ^ i)) y1 := by
      intro i
      induction i with
      | zero =>
        intro k B1 y1 hi hk hL1 h1 hB1 q1
        subst hk
        unfold wl_Mod_tellNumber_46 j_Mod_tellNumber_46
        have e1 : (v / lN (10 ^ 0)).toInt = v.toInt.tdiv ((10 ^ 0 : Nat) : Int) := dv_abs (by decide) (by decide) (Or.inr (by decide))
        obtain ⟨m1, m2, m3⟩ := md10 (q := v / lN (10 ^ 0))
        have ta := td_abs (z := v.toInt) (m := 10 ^ 0)
        have ts := td_sg (z := v.toInt) (m := 10 ^ 0)
        rw [← e1, hn] at ta
        rw [← e1] at ts
        rw [ta] at m1
        refine br_f (by rw [show (10 : Nat) ^ 0 = 1 from rfl]; decide) ⟨by rw [show (10 : Nat) ^ 0 = 1 from rfl]; decide, nm_e ?_⟩
        have lt := Nat.mod_lt (n / 10 ^ 0) (show 0 < 10 by decide)
        have fin : ∀ s0 : Int64, s0 = lN (n / 10 ^ 0 % 10) → j_Mod_tellNumber_81 post (wl_Mod_tellNumber_46 post 1) v most (lN (10 ^ 0)) (v / lN (10 ^ 0) - v / lN (10 ^ 0) / 10 * 10) s0 48 y1 := fun s0 hs => by
          unfold j_Mod_tellNumber_81
          rw [hs, lN_i, show (48 : Int32) = nI 48 from rfl, nI_add]
          refine s_tell hL1 h1 (by omega) (by omega) (fun y y1' y2 => nm_e ?_)
          unfold wl_Mod_tellNumber_46 j_Mod_tellNumber_46
          exact br_t (by rw [show (10 : Nat) ^ 0 = 1 from rfl]; decide) (q1 y y1' y2)
        by_cases c : 0 ≤ (v / lN (10 ^ 0) - v / lN (10 ^ 0) / 10 * 10).toInt
        · exact br_t ((lg_cmp_ge _ _).mpr (by rw [Int64.le_iff_toInt_le]; exact c)) (fin _ (of_ti (by omega)))
        · refine br_f (fun z => c (by have := (lg_cmp_ge _ _).mp z; rw [Int64.le_iff_toInt_le] at this; exact this)) (fin _ (of_ti ?_))
          rw [Int64.toInt_neg, Int.bmod_eq_of_le (by omega) (by omega)]
          omega
      | succ i ih =>
        intro k B1 y1 hi hk hL1 h1 hB1 q1
        subst hk
        unfold wl_Mod_tellNumber_46 j_Mod_tellNumber_46
        have pp := p18 (i + 1) hi
        have pz : 0 < 10 ^ (i + 1) := Nat.pow_pos (by decide)
        have e1 : (v / lN (10 ^ (i + 1))).toInt = v.toInt.tdiv ((10 ^ (i + 1) : Nat) : Int) := dv_abs (by omega) pp (Or.inr (by omega))
        obtain ⟨m1, m2, m3⟩ := md10 (q := v / lN (10 ^ (i + 1)))
        have ta := td_abs (z := v.toInt) (m := 10 ^ (i + 1))
        rw [← e1, hn] at ta
        rw [ta] at m1
        have lz : ¬ lN (10 ^ (i + 1)) = 0 := fun z => by have := (lN0 (by omega)).mp z; omega
        refine br_f (fun z => ?_) ⟨lz, nm_e ?_⟩
        · have := (lg_cmp_le _ _).mp z
          rw [show (0 : Int64) = lN 0 from rfl, lN_le2 pp (by decide)] at this
          omega
        have lt := Nat.mod_lt (n / 10 ^ (i + 1)) (show 0 < 10 by decide)
        have fin : ∀ s0 : Int64, s0 = lN (n / 10 ^ (i + 1) % 10) → j_Mod_tellNumber_81 post (wl_Mod_tellNumber_46 post (i + 2)) v most (lN (10 ^ (i + 1))) (v / lN (10 ^ (i + 1)) - v / lN (10 ^ (i + 1)) / 10 * 10) s0 48 y1 := fun s0 hs => by
          unfold j_Mod_tellNumber_81
          rw [hs, lN_i, show (48 : Int32) = nI 48 from rfl, nI_add]
          refine s_tell hL1 h1 (by omega) (by omega) (fun y y1' y2 => nm_r (e' := lN (10 ^ i)) ?_ ?_)
          · have e2 : (lN (10 ^ (i + 1)) / 10).toInt = ((10 ^ i : Nat) : Int) := by
              rw [show (10 : Int64) = lN 10 from rfl, dv_abs (m := 10) (by decide) (by decide) (Or.inr (by decide)), lN_ti' pp]
              rw [Int.tdiv_eq_ediv_of_nonneg (by omega)]
              have : 10 ^ (i + 1) = 10 ^ i * 10 := Nat.pow_succ ..
              omega
            exact of_ti e2
          · refine ih (i + 2) (B1 ++ [48 + n / 10 ^ (i + 1) % 10]) y (by omega) rfl (y1'.lm hL1) y2 (by rw [List.length_append]; show B1.length + 1 + i < _; omega) (fun z z1 z2 => q1 z (Fg.trans y1' z1) ?_)
            rw [List.append_assoc] at z2
            exact z2
        by_cases c : 0 ≤ (v / lN (10 ^ (i + 1)) - v / lN (10 ^ (i + 1)) / 10 * 10).toInt
        · exact br_t ((lg_cmp_ge _ _).mpr (by rw [Int64.le_iff_toInt_le]; exact c)) (fin _ (of_ti (by omega)))
        · refine br_f (fun z => c (by have := (lg_cmp_ge _ _).mp z; rw [Int64.le_iff_toInt_le] at this; exact this)) (fin _ (of_ti ?_))
          rw [Int64.toInt_neg, Int.bmod_eq_of_le (by omega) (by omega)]
          omega
    exact ⟨j + 2, key j (j + 2) B0 y0 hj rfl hL0 h0 (by omega) q⟩
  -- how many there are
  have cnt : ∀ (y0 : St) (B0 : List Nat), LM y0 → OutM y0 B0 → B0.length < 2 ^ 29 + 1 → (∀ y, FrTl y0 y → OutM y (B0 ++ dcF n (nd10 n)) → post y) → j_Mod_tellNumber_12 post v y0 := fun y0 B0 hL0 h0 hB0 q => by
    unfold j_Mod_tellNumber_12
    refine lp_Mod_tellNumber_14 (fun a0 a1 y => v = a0 ∧ y0 = y ∧ ∃ j, lN (10 ^ j) = a1 ∧ j ≤ 18 ∧ (j = 0 ∨ 10 ≤ n / 10 ^ (j - 1))) (fun _ a1 _ => 2 ^ 64 - uL a1) ?_ _ _ _ ⟨rfl, rfl, 0, rfl, by decide, Or.inl rfl⟩
    rintro Q a0 a1 y ⟨rfl, rfl, j, rfl, j1, j2⟩ ih
    have pp := p18 j j1
    have pz : 0 < 10 ^ j := Nat.pow_pos (by decide)
    have lz : ¬ lN (10 ^ j) = 0 := fun z => by have := (lN0 (by omega)).mp z; omega
    have e1 : (v / lN (10 ^ j)).toInt = v.toInt.tdiv ((10 ^ j : Nat) : Int) := dv_abs (by omega) pp (Or.inr (by omega))
    have ta := td_abs (z := v.toInt) (m := 10 ^ j)
    rw [← e1, hn] at ta
    unfold j_Mod_tellNumber_14 j_Mod_tellNumber_34
    have g9 : 0 < lg_cmp (v / lN (10 ^ j)) 9 ↔ 9 < (v / lN (10 ^ j)).toInt := by rw [lg_cmp_gt, Int64.lt_iff_toInt_lt]; rfl
    have m9 : 0 ≤ lg_cmp (v / lN (10 ^ j)) (-9) ↔ -9 ≤ (v / lN (10 ^ j)).toInt := by rw [lg_cmp_ge, Int64.le_iff_toInt_le]; rfl
    rw [g9, m9]
    have more : 9 < n / 10 ^ j → (∀ v1826 : Int64, v1826 = (lN (10 ^ j) * 10) → Q v v1826 y0) := fun c => by
      have le : 10 ^ j * 10 ≤ n := by
        have := Nat.div_mul_le_self n (10 ^ j)
        have : 10 * 10 ^ j ≤ n / 10 ^ j * 10 ^ j := Nat.mul_le_mul_right _ (by omega)
        omega
      have j17 : j + 1 ≤ 18 := by
        rcases Nat.lt_or_ge j 18 with z | z
        · omega
        · have e : j = 18 := by omega
          rw [e] at le
          have : (10 : Nat) ^ 18 * 10 ≤ 9223372036854775808 := Nat.le_trans le n63
          exact absurd this (by decide)
      have pp2 := p18 (j + 1) j17
      have e10 : 10 ^ (j + 1) = 10 ^ j * 10 := Nat.pow_succ ..
      refine nm_r (e' := lN (10 ^ (j + 1))) (by rw [show (10 : Int64) = lN 10 from rfl, lN_mul, e10]) (ih _ _ _ ⟨rfl, rfl, j + 1, rfl, j17, Or.inr (by rw [Nat.add_sub_cancel]; omega)⟩ ?_)
      rw [uL_lN (by omega), uL_lN (by omega)]
      omega
    refine ⟨lz, ?_⟩
    by_cases c1 : 9 < (v / lN (10 ^ j)).toInt
    · exact br_t c1 (more (by omega))
    · refine br_f c1 ⟨lz, ?_⟩
      by_cases c2 : -9 ≤ (v / lN (10 ^ j)).toInt
      · have e : nd10 n = j := nd_is (by omega) (by omega) j2
        rw [e] at q
        exact br_t c2 (dig y0 B0 j _ j1 hL0 h0 hB0 q)
      · exact br_f c2 (more (by omega))
  unfold wp_Mod_tellNumber
  unfold decB at p
  rw [hn] at p
  by_cases c : v < 0
  · rw [if_pos c] at p
    refine br_f (fun z => ?_) (s_tell (b := 45) hL h (by omega) (by decide) (fun y y1 y2 => cnt y _ (y1.lm hL) y2 (by rw [List.length_append]; show B.length + 1 < _; omega) (fun z z1 z2 => p z (Fg.trans y1 z1) (by rw [List.append_assoc] at z2; exact z2))))
    have := (lg_cmp_ge _ _).mp z
    rw [Int64.le_iff_toInt_le] at this
    rw [Int64.lt_iff_toInt_lt] at c
    omega
  · rw [if_neg c] at p
    refine br_t ((lg_cmp_ge _ _).mpr ?_) (cnt x B hL h (by omega) p)
    rw [Int64.le_iff_toInt_le]
    rw [Int64.lt_iff_toInt_lt] at c
    omega
end
