/-! how long the codings are -/
theorem varB_2 {v : Nat} (h : v < 16384) : (varB v).length ≤ 2 := by
  rw [varF_lead (by omega)]
  split
  · decide
  · exact Nat.le_refl _
theorem codF_len2 {V : Nat → Int64} {m L : Nat} (hb : ∀ a, a + 1 < m → (blkB V a (min (a + 64) (m - 1))).length ≤ L) : ∀ d a, (codF V m d a).length ≤ L * ((m - a + 62) / 64) := by
  intro d
  induction d with
  | zero => intro a; exact Nat.zero_le _
  | succ d ih =>
    intro a
    simp only [codF]
    split
    · exact Nat.zero_le _
    · rename_i c
      rw [List.length_append]
      have h1 := ih (a + 64)
      have h2 := hb a (by omega)
      have e : (m - a + 62) / 64 = (m - (a + 64) + 62) / 64 + 1 := by omega
      rw [e, Nat.mul_succ]
      omega
theorem codeB_len2 {V : Nat → Int64} {m L : Nat} (hm : m ≤ 1000) (hb : ∀ a, a + 1 < m → (blkB V a (min (a + 64) (m - 1))).length ≤ L) : (codeB V m).length ≤ 20 + L * 16 := by
  unfold codeB
  rw [List.length_append, List.length_append]
  have h1 := varB_len m
  have h2 := codF_len2 hb m 0
  have h3 : L * ((m - 0 + 62) / 64) ≤ L * 16 := Nat.mul_le_mul_left _ (by omega)
  split
  · rw [List.length_nil]; omega
  · have := varB_len (uL (zg (V 0)))
    omega
theorem codeB_any {V : Nat → Int64} {m : Nat} (hm : m ≤ 1000) : (codeB V m).length ≤ 8436 := codeB_len2 (L := 526) hm (fun _ _ => blkB_len)
theorem runF_len2 {R : Nat → Int32} {n w : Nat} (hw : w ≤ 10) (hn : n ≤ 1000) : ∀ d k, (runF R n w d k).length ≤ (w + 4) * ((n - k + 7) / 8) := by
  intro d
  induction d with
  | zero => intro k; exact Nat.zero_le _
  | succ d ih =>
    intro k
    simp only [runF]
    split
    · exact Nat.zero_le _
    · rename_i c
      have sl := sm_le (R := R) (show k ≤ n by omega)
      have g := (gr_le (R := R) (n := n) n k (by omega) (by omega))
      split
      · have h1 := ih (k + sm R n k)
        have h2 := varB_2 (v := 2 * sm R n k) (by omega)
        rw [List.length_append, List.length_append, show fixB (uI (R k)) ((w + 7) / 8) = fixF (uI (R k)) ((w + 7) / 8) 0 from rfl, fixF_len]
        have e : (w + 4) * ((n - (k + sm R n k) + 7) / 8) + (w + 4) ≤ (w + 4) * ((n - k + 7) / 8) := by
          rw [← Nat.mul_succ]
          exact Nat.mul_le_mul_left _ (by omega)
        omega
      · have h1 := ih (k + 8 * gr R n k)
        have h2 := varB_2 (v := 2 * gr R n k + 1) (by omega)
        rw [List.length_append, List.length_append, packB_len]
        have e : (w + 4) * ((n - (k + 8 * gr R n k) + 7) / 8) + (w + 4) * gr R n k ≤ (w + 4) * ((n - k + 7) / 8) := by
          rw [← Nat.mul_add]
          exact Nat.mul_le_mul_left _ (by omega)
        have e2 : gr R n k * w + 4 ≤ (w + 4) * gr R n k := by
          rw [Nat.add_mul, Nat.mul_comm (gr R n k) w]
          omega
        omega
theorem runB_len2 {R : Nat → Int32} {n w : Nat} (hw : w ≤ 10) (hn : n ≤ 1000) : (runB R n w).length ≤ 1750 := by
  have h := runF_len2 (R := R) hw hn n 0
  have h1 : (w + 4) * ((n - 0 + 7) / 8) ≤ 14 * ((n - 0 + 7) / 8) := Nat.mul_le_mul_right _ (by omega)
  show (runF R n w n 0).length ≤ 1750
  omega
/-! small numbers have small WIDTHS -/
theorem lsF_min {V : Nat → Int64} {a : Nat} : ∀ c, (∀ i, i < c → lsF V a c ≤ df V (a + i)) ∧ lsF V a c ≤ df V a ∧ ∃ i, (i < c ∨ i = 0) ∧ lsF V a c = df V (a + i) := by
  intro c
  induction c with
  | zero => exact ⟨fun i hi => absurd hi (Nat.not_lt_zero _), Int64.le_refl _, 0, Or.inr rfl, rfl⟩
  | succ c ih =>
    obtain ⟨h1, h2, j, h3, h4⟩ := ih
    show (∀ i, i < c + 1 → (if df V (a + c) < lsF V a c then df V (a + c) else lsF V a c) ≤ df V (a + i)) ∧ (if df V (a + c) < lsF V a c then df V (a + c) else lsF V a c) ≤ df V a ∧ ∃ i, (i < c + 1 ∨ i = 0) ∧ (if df V (a + c) < lsF V a c then df V (a + c) else lsF V a c) = df V (a + i)
    by_cases e : df V (a + c) < lsF V a c
    · rw [if_pos e]
      rw [Int64.lt_iff_toInt_lt] at e
      refine ⟨fun i hi => ?_, ?_, c, Or.inl (by omega), rfl⟩
      · by_cases z : i = c
        · rw [z]; exact Int64.le_refl _
        · have := h1 i (by omega)
          rw [Int64.le_iff_toInt_le] at this ⊢
          omega
      · rw [Int64.le_iff_toInt_le] at h2 ⊢
        omega
    · rw [if_neg e]
      refine ⟨fun i hi => ?_, h2, j, by omega, h4⟩
      by_cases z : i = c
      · rw [z]
        rw [Int64.lt_iff_toInt_lt] at e
        rw [Int64.le_iff_toInt_le]
        omega
      · exact h1 i (by omega)
theorem lN_ti {n : Nat} (h : n < 2 ^ 63) : (lN n).toInt = (n : Int) := by
  show (Int64.ofNat n).toInt = _
  rw [Int64.toInt_ofNat_of_lt (by omega)]
theorem df_sm {V : Nat → Int64} {k v w : Nat} (h1 : V k = lN v) (h2 : V (k + 1) = lN w) (hv : v < 256) (hw : w < 256) : (df V k).toInt = (w : Int) - v := by
  unfold df
  rw [h1, h2, Int64.toInt_sub, lN_ti (by omega), lN_ti (by omega)]
  rw [Int.bmod_eq_of_le (by omega) (by omega)]
theorem wd_sm {d l : Int64} (h1 : l ≤ d) (h2 : d.toInt ≤ 255) (h3 : -255 ≤ l.toInt) : bl (uL (d - l)) ≤ 9 := by
  rw [Int64.le_iff_toInt_le] at h1
  have e : d - l = lN (d.toInt - l.toInt).toNat := by
    apply Int64.toInt_inj.mp
    rw [Int64.toInt_sub, lN_ti (by omega), Int.bmod_eq_of_le (by omega) (by omega)]
    omega
  rw [e, uL_lN (by omega)]
  exact bl_le.mpr (by omega)
def smV (V : Nat → Int64) (m : Nat) : Prop := ∀ k, k < m → ∃ v, v < 256 ∧ V k = lN v
theorem smV.df {V : Nat → Int64} {m k : Nat} (h : smV V m) (hk : k + 1 < m) : -255 ≤ (df V k).toInt ∧ (df V k).toInt ≤ 255 := by
  obtain ⟨v, v1, v2⟩ := h k (by omega)
  obtain ⟨w, w1, w2⟩ := h (k + 1) hk
  rw [df_sm v2 w2 v1 w1]
  omega
theorem wP_sm {V : Nat → Int64} {m a last p : Nat} (h : smV V m) (hl : last + 1 ≤ m) (ha : a < last) (hap : a ≤ p) : wP V (lsF V a (last - a)) last p ≤ 9 := by
  obtain ⟨m1, m2, j, m3, m4⟩ := lsF_min (V := V) (a := a) (last - a)
  have hj : -255 ≤ (lsF V a (last - a)).toInt := by
    rw [m4]
    exact (h.df (by omega)).1
  have key : ∀ c, c ≤ min 16 (last - p) → wdM V (lsF V a (last - a)) p c ≤ 9 := by
    intro c
    induction c with
    | zero => intro _; exact Nat.zero_le _
    | succ c ih =>
      intro hc
      have h1 := ih (by omega)
      have h2 := m1 (p + c - a) (by omega)
      rw [show a + (p + c - a) = p + c by omega] at h2
      have h3 := wd_sm h2 (h.df (by omega)).2 hj
      show max _ _ ≤ 9
      omega
  exact key _ (Nat.le_refl _)
theorem prt_sm {V : Nat → Int64} {m a last : Nat} (h : smV V m) (hl : last + 1 ≤ m) (ha : a < last) : ∀ q p, a ≤ p → (prtF V (lsF V a (last - a)) last q p).length ≤ 18 * q := by
  intro q
  induction q with
  | zero => intro p _; exact Nat.le_refl _
  | succ q ih =>
    intro p hp
    show (packB _ (2 * wP V _ last p) ++ prtF V _ last q (p + 16)).length ≤ _
    rw [List.length_append, packB_len]
    have h1 := ih (p + 16) (by omega)
    have h2 := wP_sm h hl ha hp
    omega
theorem blk_sm {V : Nat → Int64} {m a last : Nat} (h : smV V m) (hl : last + 1 ≤ m) (ha : a < last) : (blkB V a last).length ≤ 86 := by
  unfold blkB
  rw [List.length_append, List.length_append, wdsF_len]
  have h1 := varB_len (uL (zg (lsF V a (last - a))))
  have h2 := prt_sm h hl ha 4 a (Nat.le_refl _)
  omega
theorem cdB_sm {V : Nat → Int64} {m : Nat} (h : smV V m) (hm : m ≤ 1000) : (cdB V m).length ≤ 1406 := by
  have h1 := codeB_len2 (V := V) (m := m) (L := 86) hm (fun a ha => blk_sm h (by omega) (by omega))
  have h2 := varB_len (codeB V m).length
  unfold cdB
  rw [List.length_append]
  omega
/-! no coding has more than 32000 bytes -/
section
variable {ty : Nat} {P : List PV}
theorem one_le {p : PV} (h : okVv ty p) : (oneB ty p).length ≤ 8 + (if ty = 3 then p.2.length else 0) := by
  unfold oneB
  split
  · rename_i c
    have h1 := (h c).1
    have h2 := varB_2 (v := p.2.length) (by omega)
    unfold txB
    rw [List.length_append, tB_len]
    omega
  · unfold fixB
    rw [fixF_len]
    split <;> omega
theorem pl_le (hP : okP ty P) : ∀ k, k ≤ P.length → (plF ty (P.take k)).length ≤ 8 * k + (if ty = 3 then oF P k else 0) := by
  intro k
  induction k with
  | zero => intro _; exact Nat.zero_le _
  | succ k ih =>
    intro hk
    have h1 := ih (by omega)
    have h2 := one_le (ty := ty) (p := pvd P k) (fun c => (hP.2 k (by omega)).2 c)
    rw [pl_take (by omega), List.length_append]
    have e : oF P (k + 1) = oF P k + (pvd P k).2.length := rfl
    split at h1 <;> split at h2 <;> split <;> omega
theorem dc_le : ∀ k, k ≤ P.length → (plF ty ((dI ty P k).map (pvd P))).length ≤ (plF ty (P.take k)).length := by
  intro k
  induction k with
  | zero => intro _; exact Nat.le_refl _
  | succ k ih =>
    intro hk
    have h1 := ih (by omega)
    rw [pl_take (by omega), List.length_append]
    by_cases c : kk ty P k ∈ (dI ty P k).map (kk ty P)
    · have e : dI ty P (k + 1) = dI ty P k := if_pos c
      rw [e]
      omega
    · have e : dI ty P (k + 1) = dI ty P k ++ [k] := if_neg c
      rw [e, List.map_append]
      show (plF ty (_ ++ [pvd P k])).length ≤ _
      rw [plF_app, List.length_append]
      omega
theorem dict_len (h0 : ty ≠ 0) (hP : okP ty P) (hl : P.length ≤ 1000) (ho : ty = 3 → oF P P.length ≤ 20000) : (dictB ty P).length ≤ 30000 := by
  rw [dict_eq h0, List.length_append, List.length_append, List.length_append]
  have d1 := dI_len (ty := ty) (P := P) P.length
  have h1 := varB_len (dI ty P P.length).length
  have h2 := dc_le (ty := ty) (P := P) P.length (Nat.le_refl _)
  have h3 := pl_le hP P.length (Nat.le_refl _)
  have h4 := runB_len2 (R := dcN ty P) (n := P.length) (w := dcW (dI ty P P.length).length) (dcW_le (by omega)) hl
  rw [List.length_singleton]
  split at h3
  · rename_i c
    have := ho c
    omega
  · omega
theorem val_len {how : Nat} (hP : okP ty P) (hl : P.length ≤ 1000) (ho : ty = 3 → oF P P.length ≤ 20000) : (valB ty how P).length ≤ 30000 := by
  unfold valB
  by_cases d0 : how = 0
  · rw [if_pos d0]
    unfold plainB
    by_cases c0 : ty = 0
    · rw [if_pos c0]
      have := boB_len (V := fun k => (P.getD k (0, [])).1) (n := P.length) P.length 0
      omega
    · rw [if_neg c0]
      have h3 := pl_le hP P.length (Nat.le_refl _)
      rw [List.take_of_length_le (Nat.le_refl _)] at h3
      split at h3
      · rename_i c
        have := ho c
        omega
      · omega
  · rw [if_neg d0]
    by_cases c0 : ty = 0
    · rw [if_pos c0]
      have := runB_len2 (R := fun k => (pvd P k).1.toInt32) (n := P.length) (w := 1) (by decide) hl
      omega
    · rw [if_neg c0]
      by_cases c3 : ty = 3
      · rw [if_pos c3]
        have s1 : ∀ c : Nat → Nat, smV (lesV c P) P.length := fun c k hk => by
          have := ((hP.2 k hk).2 c3).1
          exact ⟨(pvd P k).2.length - c k, by show (P.getD k (0, [])).2.length - c k < 256; omega, rfl⟩
        have s2 : smV (fun k => lN (cm P k)) P.length := fun k hk => by
          have h1 := ((hP.2 k hk).2 c3).1
          have h2 := cm_le (P := P) k
          have e : (pvd P k).2.length = (P.getD k (0, [])).2.length := rfl
          exact ⟨cm P k, by omega, rfl⟩
        have o1 := ho c3
        by_cases d1 : how = 1
        · rw [if_pos d1]
          unfold lensB
          rw [List.length_append]
          have h1 := cdB_sm (s1 (fun _ => 0)) hl
          have h2 := rsF_len (P := P) (c := fun _ => 0) P.length
          omega
        · rw [if_neg d1]
          by_cases d2 : how = 2
          · rw [if_pos d2]
            unfold frontB
            rw [List.length_append, List.length_append]
            have h1 := cdB_sm (s1 (cm P)) hl
            have h3 := cdB_sm s2 hl
            have h2 := rsF_len (P := P) (c := cm P) P.length
            omega
          · rw [if_neg d2]
            exact dict_len c0 hP hl ho
      · rw [if_neg c3]
        by_cases d1 : how = 1
        · rw [if_pos d1]
          have := codeB_any (V := fun k => (pvd P k).1) hl
          omega
        · rw [if_neg d1]
          exact dict_len c0 hP hl ho
end
