/-! the class reads bits -/
theorem nI_a7 (m : Nat) : nI m &&& 7 = nI (m % 8) := by
  apply Int32.toBitVec_inj.mp
  rw [Int32.toBitVec_and]
  apply BitVec.eq_of_toNat_eq
  rw [BitVec.toNat_and, show (nI m).toBitVec = BitVec.ofNat 32 m from rfl, show (7 : Int32).toBitVec = BitVec.ofNat 32 7 from rfl, show (nI (m % 8)).toBitVec = BitVec.ofNat 32 (m % 8) from rfl, BitVec.toNat_ofNat, BitVec.toNat_ofNat, BitVec.toNat_ofNat, show 7 % 2 ^ 32 = 2 ^ 3 - 1 from rfl, Nat.and_two_pow_sub_one_eq_mod]
  omega
theorem nI_sr3 {m : Nat} (h : m < 2 ^ 31) : nI m >>> ((3 : Int32) &&& 31) = nI (m / 8) := by
  apply Int32.toInt_inj.mp
  rw [nI_toInt (show m / 8 < 2 ^ 31 by omega)]
  show ((nI m >>> ((3 : Int32) &&& 31)).toBitVec).toInt = _
  rw [Int32.toBitVec_shiftRight, show (((3 : Int32) &&& 31).toBitVec.smod 32) = BitVec.ofNat 32 3 from rfl, BitVec.sshiftRight_eq', BitVec.toInt_sshiftRight, show (BitVec.ofNat 32 3).toNat = 3 from rfl, show (nI m).toBitVec.toInt = (nI m).toInt from rfl, nI_toInt h, Int.shiftRight_eq_div_pow]
  omega
theorem by_sr : ∀ t, t < 256 → ∀ b, b < 8 → nI t >>> (nI b &&& 31) = nI (t / 2 ^ b) := by decide +kernel
theorem by_mk : ∀ t, t < 256 → ∀ b, b < 9 → nI t &&& nI (2 ^ b - 1) = nI (t % 2 ^ b) := by decide +kernel
theorem bs_part {T : Nat → Nat} {q m : Nat} : ∀ d, m % 8 + d ≤ 8 → bsN T q m d = T (q + m / 8) / 2 ^ (m % 8) % 2 ^ d := by
  intro d
  induction d with
  | zero => intro _; show 0 = _; rw [Nat.pow_zero, Nat.mod_one]
  | succ d ih =>
    intro hd
    show bsN T q m d + btN T q (m + d) * 2 ^ d = _
    unfold btN
    rw [ih (by omega), show (m + d) / 8 = m / 8 by omega, show (m + d) % 8 = m % 8 + d by omega, Nat.pow_add, ← Nat.div_div_eq_div_mul, Nat.mod_pow_succ, Nat.mul_comm (2 ^ d)]
section
variable {x : St} {T : Nat → Nat} {n st p o : Nat}
theorem k_bitsAt {post : Int64 → St → Prop} {m w : Nat} (ho : SrO o) (hF : FiC x T n) (hp : fI x o 1 = nI p) (hw : w ≤ 64) (hm : m < 2 ^ 28) (hp2 : p ≤ 40000) (hq : ∀ i, i < w → p + (m + i) / 8 < n) (k : post (lN (bsN T p m w)) x) : wp_Src_bitsAt post o (nI m) (nI w) x := by
  have hn := hF.2.1
  unfold wp_Src_bitsAt
  refine lp_Src_bitsAt_8 (fun a0 a1 a2 a3 a4 a5 y => o = a0 ∧ nI m = a1 ∧ nI w = a2 ∧ x = y ∧ ∃ d j, nI d = a4 ∧ nI j = a5 ∧ d ≤ w ∧ j ≤ 10 ∧ lN (bsN T p m d) = a3 ∧ (d = w ∨ (j = 0 ∧ d = 0) ∨ (1 ≤ j ∧ (m + d) % 8 = 0 ∧ 8 * (j - 1) + 1 ≤ d))) (fun _ _ _ _ a4 _ _ => w - a4.toNatClampNeg) ?_ _ _ _ _ _ _ _ ⟨rfl, rfl, rfl, rfl, 0, 0, rfl, rfl, Nat.zero_le _, by decide, rfl, Or.inr (Or.inl ⟨rfl, rfl⟩)⟩
  rintro Q a0 a1 a2 a3 a4 a5 y ⟨rfl, rfl, rfl, rfl, d, j, rfl, rfl, d1, j1, rfl, hj⟩ ih
  unfold j_Src_bitsAt_8 j_Src_bitsAt_98
  by_cases cd : d < w
  · have hj' : j < 10 := by omega
    refine br_f (by (first | omega | (simp (disch := omega) only [Int32.le_iff_toInt_le, Int32.lt_iff_toInt_lt, z_eq, z_in, nI_toInt, z_cl, z_m1, z_sg, z_255, Int32.reduceToInt] <;> omega) | (simp only [Int32.le_iff_toInt_le, Int32.lt_iff_toInt_lt, z_eq, z_in, z_add, z_sub, z_mul, z_neg, z_nI, z_cl, z_sg, z_255, z_lit, Int32.reduceToInt] <;> omega))) (br_f (by (first | omega | (simp (disch := omega) only [Int32.le_iff_toInt_le, Int32.lt_iff_toInt_lt, z_eq, z_in, nI_toInt, z_cl, z_m1, z_sg, z_255, Int32.reduceToInt] <;> omega) | (simp only [Int32.le_iff_toInt_le, Int32.lt_iff_toInt_lt, z_eq, z_in, z_add, z_sub, z_mul, z_neg, z_nI, z_cl, z_sg, z_255, z_lit, Int32.reduceToInt] <;> omega))) ?_)
    rw [nI_add]
    have hqd := hq d cd
    generalize ht : m + d = t at *
    have hh : t % 8 < 8 := Nat.mod_lt _ (by decide)
    obtain ⟨e, he⟩ : ∃ e, e = min (8 - t % 8) (w - d) := ⟨_, rfl⟩
    have he1 : 1 ≤ e ∧ e ≤ 8 - t % 8 ∧ e ≤ w - d := by omega
    have hT := hF.2.2.1 (p + t / 8)
    obtain ⟨b1, -, b3⟩ := hF.by hqd
    refine nm_r (nI_a7 t) (nm_r (e' := nI e) ?_ ?_)
    · rw [nI_sub (by omega : d ≤ w), show (8 : Int32) = nI 8 from rfl, nI_sub (by omega), nI_min (by omega) (by omega), he, Nat.min_comm]
    rw [nI_sr3 (by omega), hp, nI_add, ho.st]
    refine ⟨b3, nm_r b1 (nm_r (e' := lN (bsN T p m (d + e))) ?_ (nm_r (nI_add d e) ?_))⟩
    · rw [by_sr _ hT _ hh, one_shl e (by omega)]
      have t2 : T (p + t / 8) / 2 ^ (t % 8) < 256 := Nat.lt_of_le_of_lt (Nat.div_le_self _ _) hT
      have t3 : T (p + t / 8) / 2 ^ (t % 8) % 2 ^ e < 256 := Nat.lt_of_le_of_lt (Nat.mod_le _ _) t2
      rw [by_mk _ t2 _ (by omega), nI_l (by omega), wb_shl _ (by omega), bs_add, ht, bs_part e (by omega), Nat.mul_comm (2 ^ d)]
      have l1 := bsN_lt (T := T) (p := p) (m := m) d
      have l2 := bsN_lt (T := T) (p := p) (m := m) (d + e)
      rw [bs_add, ht, bs_part e (by omega), Nat.mul_comm (2 ^ d)] at l2
      have l3 : 2 ^ (d + e) ≤ 2 ^ 64 := Nat.pow_le_pow_right (by decide) (by omega)
      exact g_or' (k := d) rfl l1 (by omega)
    · rw [nI_1]
      refine ih _ _ _ _ _ _ _ ⟨rfl, rfl, rfl, rfl, d + e, j + 1, rfl, rfl, by omega, by omega, rfl, ?_⟩ (by rw [nI_clamp (by omega), nI_clamp (by omega)]; omega)
      omega
  · have ed : d = w := by omega
    subst ed
    exact ⟨fun _ => k, fun _ => br_t (by (first | omega | (simp (disch := omega) only [Int32.le_iff_toInt_le, Int32.lt_iff_toInt_lt, z_eq, z_in, nI_toInt, z_cl, z_m1, z_sg, z_255, Int32.reduceToInt] <;> omega) | (simp only [Int32.le_iff_toInt_le, Int32.lt_iff_toInt_lt, z_eq, z_in, z_add, z_sub, z_mul, z_neg, z_nI, z_cl, z_sg, z_255, z_lit, Int32.reduceToInt] <;> omega))) k⟩
end
