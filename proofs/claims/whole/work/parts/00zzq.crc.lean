/-! the CRC-32 -/
def u1 (c : Int32) : Int32 := (c.toUInt32 >>> ((1 : Int32).toUInt32 &&& Int32.toUInt32 31)).toInt32
theorem bt_u1 (c : Int32) (i : Nat) : bt (u1 c) i = bt c (1 + i) := b_ushr 1 (by decide) c i
def fP (c : Int32) : Int32 := if bt c 0 = true then u1 c ^^^ (-306674912) else u1 c
theorem bt_fP (c : Int32) (i : Nat) : bt (fP c) i = (bt c (1 + i) ^^ (bt c 0 && bt (-306674912) i)) := by
  unfold fP
  by_cases h : bt c 0 = true
  · rw [if_pos h, b_xor, bt_u1, h, Bool.true_and]
  · rw [if_neg h, bt_u1, bt_f h, Bool.false_and, Bool.xor_false]
def itP : Nat → Int32 → Int32
  | 0, c => c
  | n + 1, c => itP n (fP c)
theorem fP_lin (a b : Int32) : fP (a ^^^ b) = fP a ^^^ fP b := by
  refine b_ext (fun i _ => ?_)
  rw [bt_fP, b_xor, b_xor, b_xor, bt_fP, bt_fP]
  cases bt a (1 + i) <;> cases bt b (1 + i) <;> cases bt a 0 <;> cases bt b 0 <;> cases bt (-306674912) i <;> rfl
theorem itP_lin : ∀ n a b, itP n (a ^^^ b) = itP n a ^^^ itP n b := by
  intro n
  induction n with
  | zero => intro a b; rfl
  | succ n ih => intro a b; show itP n (fP (a ^^^ b)) = _; rw [fP_lin, ih]; rfl
theorem itP_s : ∀ n c, itP (n + 1) c = fP (itP n c) := by
  intro n
  induction n with
  | zero => intro c; rfl
  | succ n ih => intro c; exact ih (fP c)
theorem itP_add : ∀ m n c, itP (m + n) c = itP n (itP m c) := by
  intro m
  induction m with
  | zero => intro n c; rw [Nat.zero_add]; rfl
  | succ m ih => intro n c; rw [show m + 1 + n = (m + n) + 1 by omega]; exact ih n (fP c)
theorem crc_tab : ∀ j, j < 16 → itP 4 (nI j) = crcI j := by decide +kernel
theorem b_15 (i : Nat) : bt 15 i = decide (i < 4) := by
  rw [show (15 : Int32) = nI (2 ^ 4 - 1) from rfl, bt_t, uI_nI (by decide), Nat.testBit_two_pow_sub_one]
theorem shift_hi : ∀ n h, (∀ j, j < n → bt h j = false) → ∀ i, bt (itP n h) i = bt h (n + i) := by
  intro n
  induction n with
  | zero => intro h _ i; rw [Nat.zero_add]; rfl
  | succ n ih =>
    intro h hz i
    have e : ∀ k, bt (fP h) k = bt h (1 + k) := fun k => by rw [bt_fP, hz 0 (by omega), Bool.false_and, Bool.xor_false]
    show bt (itP n (fP h)) i = _
    rw [ih (fP h) (fun j hj => by rw [e]; exact hz _ (by omega)), e]
    congr 1
    omega
theorem nib_eq (c : Int32) : (c.toUInt32 >>> ((4 : Int32).toUInt32 &&& Int32.toUInt32 31)).toInt32 ^^^ crcI (c &&& 15).toNatClampNeg = itP 4 c := by
  obtain ⟨j, j1, j2⟩ := pk_andE c (m := 15) 4 (by decide)
  have split : c = (c &&& 15) ^^^ (c ^^^ (c &&& 15)) := by
    refine b_ext (fun i _ => ?_)
    rw [b_xor, b_xor]
    cases bt (c &&& 15) i <;> cases bt c i <;> rfl
  have hi : ∀ i, bt (c ^^^ (c &&& 15)) i = (decide (4 ≤ i) && bt c i) := by
    intro i
    rw [b_xor, b_and, b_15]
    by_cases d : i < 4
    · rw [decide_eq_true d, decide_eq_false (by omega)]; cases bt c i <;> rfl
    · rw [decide_eq_false d, decide_eq_true (by omega)]; cases bt c i <;> rfl
  have e4 : itP 4 (c ^^^ (c &&& 15)) = (c.toUInt32 >>> ((4 : Int32).toUInt32 &&& Int32.toUInt32 31)).toInt32 := by
    refine b_ext (fun i _ => ?_)
    rw [shift_hi 4 _ (fun k hk => by rw [hi, decide_eq_false (by omega), Bool.false_and]), hi, decide_eq_true (by omega), Bool.true_and]
    exact (b_ushr 4 (by decide) c i).symm
  have el : itP 4 (c &&& 15) = crcI (c &&& 15).toNatClampNeg := by
    rw [j2, nI_clamp (by omega)]
    exact crc_tab j (by omega)
  conv => rhs; rw [split, itP_lin, e4, el]
  exact Int32.xor_comm _ _
/-- the bytes T from k on, d of them -/
def crF (T : Nat → Int32) : Nat → Nat → Int32 → Int32
  | 0, _, c => c
  | d + 1, k, c => crF T d (k + 1) (itP 8 (c ^^^ T k))
def crcS (T : Nat → Int32) (a e : Nat) : Int32 := crF T (e - a) a (-1) ^^^ (-1)
theorem crF_cg {T U : Nat → Int32} : ∀ d k j c, (∀ i, i < d → T (k + i) = U (j + i)) → crF T d k c = crF U d j c := by
  intro d
  induction d with
  | zero => intro k j c _; rfl
  | succ d ih =>
    intro k j c h
    show crF T d (k + 1) (itP 8 (c ^^^ T k)) = crF U d (j + 1) (itP 8 (c ^^^ U j))
    have h0 := h 0 (by omega)
    rw [Nat.add_zero, Nat.add_zero] at h0
    rw [h0]
    refine ih _ _ _ (fun i hi => ?_)
    have := h (i + 1) (by omega)
    rw [show k + 1 + i = k + (i + 1) by omega, show j + 1 + i = j + (i + 1) by omega]
    exact this
theorem c_checkOf {post : Int32 → St → Prop} {x : St} {r a e : Nat} {T : Nat → Int32} (h2 : fN x r < 2 ^ 31) (he : e ≤ fN x r) (hae : a ≤ e) (h : ∀ i, a ≤ i → i < e → fA x r i = (T i).toInt8.toInt32 ∧ 0 ≤ T i ∧ T i ≤ 255) (p : post (crcS T a e) x) : wp_V_checkOf post r (nI a) (nI e) x := by
  refine lp_V_checkOf_5 (fun l0 l1 l2 l3 l4 y => r = l0 ∧ nI e = l2 ∧ x = y ∧ ∃ k, nI k = l4 ∧ a ≤ k ∧ k ≤ e ∧ crF T (e - k) k l3 = crF T (e - a) a (-1)) (fun _ _ _ _ l4 _ => e - l4.toNatClampNeg) ?_ _ _ _ _ _ _ ⟨rfl, rfl, rfl, a, rfl, Nat.le_refl _, hae, rfl⟩
  rintro Q l0 l1 l2 l3 l4 y ⟨rfl, rfl, rfl, k, rfl, k1, k2, k3⟩ ih
  unfold j_V_checkOf_5
  by_cases c : k < e
  · have hk := h k k1 c
    have eb : (T k).toInt8.toInt32 &&& 255 = T k := by
      have h1 := hk.2.1
      have h3 := hk.2.2
      (first | omega | (simp (disch := omega) only [Int32.le_iff_toInt_le, Int32.lt_iff_toInt_lt, z_eq, z_in, nI_toInt, z_cl, z_m1, z_sg, z_255, Int32.reduceToInt] at * <;> omega) | (simp only [Int32.le_iff_toInt_le, Int32.lt_iff_toInt_lt, z_eq, z_in, z_add, z_sub, z_mul, z_neg, z_nI, z_cl, z_sg, z_255, z_lit, Int32.reduceToInt] at * <;> omega))
    have v15 : ∀ v : Int32, vp_in (v &&& 15) 16 := fun v => pk_andIn v 4 (by decide) (by decide)
    refine br_f (by (first | omega | (simp (disch := omega) only [Int32.le_iff_toInt_le, Int32.lt_iff_toInt_lt, z_eq, z_in, nI_toInt, z_cl, z_m1, z_sg, z_255, Int32.reduceToInt] <;> omega) | (simp only [Int32.le_iff_toInt_le, Int32.lt_iff_toInt_lt, z_eq, z_in, z_add, z_sub, z_mul, z_neg, z_nI, z_cl, z_sg, z_255, z_lit, Int32.reduceToInt] <;> omega))) ⟨vp_in_nI (by omega) h2, ?_⟩
    rw [rA_nI (by omega), hk.1, eb]
    refine nm_e ⟨v15 _, nm_e ⟨v15 _, nm_e ?_⟩⟩
    rw [nib_eq, nib_eq, nI_1]
    refine ih _ _ _ _ _ _ ⟨rfl, rfl, rfl, k + 1, rfl, by omega, by omega, ?_⟩ ?_
    · rw [← k3, show e - k = (e - (k + 1)) + 1 by omega, ← itP_add 4 4]; rfl
    · rw [nI_clamp (by omega), nI_clamp (by omega)]; omega
  · have ek : e - k = 0 := by omega
    rw [ek] at k3
    refine br_t (by (first | omega | (simp (disch := omega) only [Int32.le_iff_toInt_le, Int32.lt_iff_toInt_lt, z_eq, z_in, nI_toInt, z_cl, z_m1, z_sg, z_255, Int32.reduceToInt] <;> omega) | (simp only [Int32.le_iff_toInt_le, Int32.lt_iff_toInt_lt, z_eq, z_in, z_add, z_sub, z_mul, z_neg, z_nI, z_cl, z_sg, z_255, z_lit, Int32.reduceToInt] <;> omega))) ?_
    unfold crcS at p
    rw [← k3] at p
    exact p
theorem bx1 : ∀ a b c p q : Bool, (a ^^ b) = true → ((c ^^ p) ^^ q) = ((c ^^ q) ^^ ((b ^^ a) && p)) := by decide
theorem bx2 : ∀ a b c p q : Bool, ¬ (a ^^ b) = true → (c ^^ q) = ((c ^^ q) ^^ ((b ^^ a) && p)) := by decide
theorem s_check {post : Int32 → St → Prop} {x : St} {r a e : Nat} {T : Nat → Int32} (h2 : fN x r < 2 ^ 31) (he : e ≤ fN x r) (hae : a ≤ e) (h : ∀ i, a ≤ i → i < e → fA x r i = T i ∧ 0 ≤ T i ∧ T i ≤ 255) (p : post (crcS T a e) x) : wp_Mod_check post r (nI a) (nI e) x := by
  refine lp_Mod_check_5 (fun l0 l1 l2 l3 l4 y => r = l0 ∧ nI e = l2 ∧ x = y ∧ ∃ k, nI k = l4 ∧ a ≤ k ∧ k ≤ e ∧ crF T (e - k) k l3 = crF T (e - a) a (-1)) (fun _ _ _ _ l4 _ => e - l4.toNatClampNeg) ?_ _ _ _ _ _ _ ⟨rfl, rfl, rfl, a, rfl, Nat.le_refl _, hae, rfl⟩
  rintro Q l0 l1 l2 l3 l4 y ⟨rfl, rfl, rfl, k, rfl, k1, k2, k3⟩ ih
  unfold j_Mod_check_5
  by_cases c : k < e
  · obtain ⟨g1, g2, g3⟩ := h k k1 c
    obtain ⟨t, t1, t2⟩ := by_of g2 g3
    have bT : ∀ i j, i ≤ 8 → j < 32 → bt (T k >>> (nI i &&& 31)) j = bt (T k) (i + j) := by
      intro i j hi hj
      rw [b_sshr i (by omega) _ hj]
      by_cases d : i + j < 32
      · rw [if_pos d]
      · rw [if_neg d, b_big (x := T k) (i := i + j) (by omega), t2, bt_t, uI_nI (by omega)]
        exact Nat.testBit_lt_two_pow (show t < 2 ^ 31 by omega)
    refine br_f (by (first | omega | (simp (disch := omega) only [Int32.le_iff_toInt_le, Int32.lt_iff_toInt_lt, z_eq, z_in, nI_toInt, z_cl, z_m1, z_sg, z_255, Int32.reduceToInt] <;> omega) | (simp only [Int32.le_iff_toInt_le, Int32.lt_iff_toInt_lt, z_eq, z_in, z_add, z_sub, z_mul, z_neg, z_nI, z_cl, z_sg, z_255, z_lit, Int32.reduceToInt] <;> omega))) ?_
    refine lp_Mod_check_14 (fun l0 l1 l2' l3' l4 l5 y => r = l0 ∧ nI e = l2' ∧ nI k = l4 ∧ x = y ∧ ∃ i, nI i = l5 ∧ i ≤ 8 ∧ itP (8 - i) (l3' ^^^ (T k >>> (nI i &&& 31))) = itP 8 (l3 ^^^ T k)) (fun _ _ _ _ _ l5 _ => 10 - l5.toNatClampNeg) ?_ _ _ _ _ _ _ _ ⟨rfl, rfl, rfl, rfl, 0, rfl, by decide, ?_⟩
    · rintro Q2 l0 l1' l2' l3' l4 l5 y ⟨rfl, rfl, rfl, rfl, i, rfl, i1, i2⟩ ih2
      unfold j_Mod_check_14
      by_cases ci : i < 8
      · refine br_f (by (first | omega | (simp (disch := omega) only [Int32.le_iff_toInt_le, Int32.lt_iff_toInt_lt, z_eq, z_in, nI_toInt, z_cl, z_m1, z_sg, z_255, Int32.reduceToInt] <;> omega) | (simp only [Int32.le_iff_toInt_le, Int32.lt_iff_toInt_lt, z_eq, z_in, z_add, z_sub, z_mul, z_neg, z_nI, z_cl, z_sg, z_255, z_lit, Int32.reduceToInt] <;> omega))) ⟨vp_in_nI (by omega) h2, ?_⟩
        rw [rA_nI (by omega), g1]
        generalize ht : T k >>> (nI i &&& 31) = tt at *
        have next : ∀ v, v = (if bt (tt ^^^ l3') 0 = true then u1 l3' ^^^ (-306674912) else u1 l3') → Q2 r l1' (nI e) v (nI k) (nI i + 1) x := by
          intro v hv
          rw [nI_1]
          refine ih2 _ _ _ _ _ _ _ ⟨rfl, rfl, rfl, rfl, i + 1, rfl, by omega, ?_⟩ ?_
          · rw [← i2, show 8 - i = (8 - (i + 1)) + 1 by omega]
            show _ = itP (8 - (i + 1)) (fP (l3' ^^^ tt))
            congr 1
            refine b_ext (fun j hj => ?_)
            rw [b_xor, bt_fP, b_xor, b_xor, bT (i + 1) j (by omega) hj, hv, ← ht]
            have q1 : bt (T k >>> (nI i &&& 31)) (1 + j) = bt (T k) (i + 1 + j) := by
              by_cases d : 1 + j < 32
              · rw [bT i (1 + j) (by omega) d]; congr 1; omega
              · rw [b_big (by omega), b_big (by omega)]
            rw [q1]
            by_cases d : bt ((T k >>> (nI i &&& 31)) ^^^ l3') 0 = true
            · rw [if_pos d, b_xor, bt_u1]
              rw [b_xor] at d
              exact bx1 _ _ _ _ _ d
            · rw [if_neg d, bt_u1]
              rw [b_xor] at d
              exact bx2 _ _ _ _ _ d
          · rw [nI_clamp (by omega), nI_clamp (by omega)]; omega
        have h1 : (tt ^^^ l3') &&& 1 = 1 ↔ bt (tt ^^^ l3') 0 = true := by
          have e1 : ∀ j, bt 1 j = decide (j < 1) := fun j => by rw [show (1 : Int32) = nI (2 ^ 1 - 1) from rfl, bt_t, uI_nI (by decide), Nat.testBit_two_pow_sub_one]
          constructor
          · intro z
            have := congrArg (fun v => bt v 0) z
            simp only [b_and, e1] at this
            rw [decide_eq_true (by omega), Bool.and_true] at this
            exact this
          · intro z
            refine b_ext (fun j _ => ?_)
            rw [b_and, e1]
            by_cases d : j < 1
            · have : j = 0 := by omega
              subst this
              rw [z]; rfl
            · rw [decide_eq_false d, Bool.and_false]
        unfold j_Mod_check_41 j_Mod_check_58
        by_cases d : bt (tt ^^^ l3') 0 = true
        · refine bn_t (h1.mpr d) (nm_e (br_f (by decide) (nm_e (next _ ?_))))
          rw [if_pos d]; rfl
        · refine bn_f (fun z => d (h1.mp z)) (nm_e (br_t rfl (next _ ?_)))
          rw [if_neg d]; rfl
      · have ei : i = 8 := by omega
        subst ei
        have z8 : T k >>> (nI 8 &&& 31) = 0 := by
          refine b_ext (fun j hj => ?_)
          rw [bT 8 j (by decide) hj, b_0, t2, bt_t, uI_nI (by omega)]
          exact Nat.testBit_lt_two_pow (Nat.lt_of_lt_of_le t1 (show 2 ^ 8 ≤ 2 ^ (8 + j) from Nat.pow_le_pow_right (by decide) (by omega)))
        rw [z8, Int32.xor_zero] at i2
        have i2 : l3' = itP 8 (l3 ^^^ T k) := i2
        refine br_t (by decide) ?_
        rw [nI_1, i2]
        refine ih _ _ _ _ _ _ ⟨rfl, rfl, rfl, k + 1, rfl, by omega, by omega, ?_⟩ ?_
        · rw [← k3, show e - k = (e - (k + 1)) + 1 by omega]; rfl
        · rw [nI_clamp (by omega), nI_clamp (by omega)]; omega
    · have z0 : T k >>> (nI 0 &&& 31) = T k := by
        refine b_ext (fun j hj => ?_)
        rw [bT 0 j (by decide) hj, Nat.zero_add]
      rw [z0]
  · have ek : e - k = 0 := by omega
    rw [ek] at k3
    refine br_t (by (first | omega | (simp (disch := omega) only [Int32.le_iff_toInt_le, Int32.lt_iff_toInt_lt, z_eq, z_in, nI_toInt, z_cl, z_m1, z_sg, z_255, Int32.reduceToInt] <;> omega) | (simp only [Int32.le_iff_toInt_le, Int32.lt_iff_toInt_lt, z_eq, z_in, z_add, z_sub, z_mul, z_neg, z_nI, z_cl, z_sg, z_255, z_lit, Int32.reduceToInt] <;> omega))) ?_
    unfold crcS at p
    rw [← k3] at p
    exact p
