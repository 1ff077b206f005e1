/-! the class reads a TEXT -/
theorem hex_sg {v : Int32} (h0 : 0 ≤ v) (h1 : v ≤ 255) : hexV v.toInt8.toInt32 = hexV v := by
  by_cases c : v ≤ 127
  · rw [show v.toInt8.toInt32 = v by (first | omega | (simp (disch := omega) only [Int32.le_iff_toInt_le, Int32.lt_iff_toInt_lt, z_eq, z_in, nI_toInt, z_cl, z_m1, z_sg, z_255, Int32.reduceToInt] at * <;> omega) | (simp only [Int32.le_iff_toInt_le, Int32.lt_iff_toInt_lt, z_eq, z_in, z_add, z_sub, z_mul, z_neg, z_nI, z_cl, z_sg, z_255, z_lit, Int32.reduceToInt] at * <;> omega))]
  · have a : ¬ dgt v.toInt8.toInt32 := by unfold dgt; intro z; (first | omega | (simp (disch := omega) only [Int32.le_iff_toInt_le, Int32.lt_iff_toInt_lt, z_eq, z_in, nI_toInt, z_cl, z_m1, z_sg, z_255, Int32.reduceToInt] at * <;> omega) | (simp only [Int32.le_iff_toInt_le, Int32.lt_iff_toInt_lt, z_eq, z_in, z_add, z_sub, z_mul, z_neg, z_nI, z_cl, z_sg, z_255, z_lit, Int32.reduceToInt] at * <;> omega))
    have b : ¬ (97 ≤ v.toInt8.toInt32 ∧ v.toInt8.toInt32 ≤ 102) := by intro z; (first | omega | (simp (disch := omega) only [Int32.le_iff_toInt_le, Int32.lt_iff_toInt_lt, z_eq, z_in, nI_toInt, z_cl, z_m1, z_sg, z_255, Int32.reduceToInt] at * <;> omega) | (simp only [Int32.le_iff_toInt_le, Int32.lt_iff_toInt_lt, z_eq, z_in, z_add, z_sub, z_mul, z_neg, z_nI, z_cl, z_sg, z_255, z_lit, Int32.reduceToInt] at * <;> omega))
    have a2 : ¬ dgt v := by unfold dgt; intro z; (first | omega | (simp (disch := omega) only [Int32.le_iff_toInt_le, Int32.lt_iff_toInt_lt, z_eq, z_in, nI_toInt, z_cl, z_m1, z_sg, z_255, Int32.reduceToInt] at * <;> omega) | (simp only [Int32.le_iff_toInt_le, Int32.lt_iff_toInt_lt, z_eq, z_in, z_add, z_sub, z_mul, z_neg, z_nI, z_cl, z_sg, z_255, z_lit, Int32.reduceToInt] at * <;> omega))
    have b2 : ¬ (97 ≤ v ∧ v ≤ 102) := by intro z; (first | omega | (simp (disch := omega) only [Int32.le_iff_toInt_le, Int32.lt_iff_toInt_lt, z_eq, z_in, nI_toInt, z_cl, z_m1, z_sg, z_255, Int32.reduceToInt] at * <;> omega) | (simp only [Int32.le_iff_toInt_le, Int32.lt_iff_toInt_lt, z_eq, z_in, z_add, z_sub, z_mul, z_neg, z_nI, z_cl, z_sg, z_255, z_lit, Int32.reduceToInt] at * <;> omega))
    unfold hexV
    rw [if_neg a, if_neg b, if_neg a2, if_neg b2]
theorem d_hexAt {post : Int32 → St → Prop} {q : Nat} {x : St} {T : Nat → Int32} {n k j : Nat} {e : Int32} (h : ScC x q T n k e) (hj : j < 100000) (p : post (if j < n then hexV (T j) else -1) x) : wp_Scn_hexAt post 10 (nI j) x := by
  have hn := h.1.2.2.1
  have h18 : ∀ v : Int32, post (hexV v) x → j_Scn_hexAt_18 post 10 (nI j) v x := by
    intro v pv
    unfold hexV at pv
    unfold j_Scn_hexAt_18 j_Scn_hexAt_36 j_Scn_hexAt_58
    by_cases d : dgt v
    · rw [if_pos d] at pv
      have d := d
      unfold dgt at d
      exact br_f (by clear pv p; (first | omega | (simp (disch := omega) only [Int32.le_iff_toInt_le, Int32.lt_iff_toInt_lt, z_eq, z_in, nI_toInt, z_cl, z_m1, z_sg, z_255, Int32.reduceToInt] at * <;> omega) | (simp only [Int32.le_iff_toInt_le, Int32.lt_iff_toInt_lt, z_eq, z_in, z_add, z_sub, z_mul, z_neg, z_nI, z_cl, z_sg, z_255, z_lit, Int32.reduceToInt] at * <;> omega))) (br_f (by clear pv p; (first | omega | (simp (disch := omega) only [Int32.le_iff_toInt_le, Int32.lt_iff_toInt_lt, z_eq, z_in, nI_toInt, z_cl, z_m1, z_sg, z_255, Int32.reduceToInt] at * <;> omega) | (simp only [Int32.le_iff_toInt_le, Int32.lt_iff_toInt_lt, z_eq, z_in, z_add, z_sub, z_mul, z_neg, z_nI, z_cl, z_sg, z_255, z_lit, Int32.reduceToInt] at * <;> omega))) pv)
    · rw [if_neg d] at pv
      have s36 : (v < 97 → post (-1) x) ∧ (¬ v < 97 → ((102 < v → post (-1) x) ∧ (¬ 102 < v → post ((v - 97) + 10) x))) := by
        by_cases g : 97 ≤ v ∧ v ≤ 102
        · rw [if_pos g] at pv
          exact br_f (by clear pv p; (first | omega | (simp (disch := omega) only [Int32.le_iff_toInt_le, Int32.lt_iff_toInt_lt, z_eq, z_in, nI_toInt, z_cl, z_m1, z_sg, z_255, Int32.reduceToInt] at * <;> omega) | (simp only [Int32.le_iff_toInt_le, Int32.lt_iff_toInt_lt, z_eq, z_in, z_add, z_sub, z_mul, z_neg, z_nI, z_cl, z_sg, z_255, z_lit, Int32.reduceToInt] at * <;> omega))) (br_f (by clear pv p; (first | omega | (simp (disch := omega) only [Int32.le_iff_toInt_le, Int32.lt_iff_toInt_lt, z_eq, z_in, nI_toInt, z_cl, z_m1, z_sg, z_255, Int32.reduceToInt] at * <;> omega) | (simp only [Int32.le_iff_toInt_le, Int32.lt_iff_toInt_lt, z_eq, z_in, z_add, z_sub, z_mul, z_neg, z_nI, z_cl, z_sg, z_255, z_lit, Int32.reduceToInt] at * <;> omega))) pv)
        · rw [if_neg g] at pv
          refine ⟨fun _ => pv, fun a => ⟨fun _ => pv, fun b => absurd ?_ g⟩⟩
          clear pv p
          constructor <;> (first | omega | (simp (disch := omega) only [Int32.le_iff_toInt_le, Int32.lt_iff_toInt_lt, z_eq, z_in, nI_toInt, z_cl, z_m1, z_sg, z_255, Int32.reduceToInt] at * <;> omega) | (simp only [Int32.le_iff_toInt_le, Int32.lt_iff_toInt_lt, z_eq, z_in, z_add, z_sub, z_mul, z_neg, z_nI, z_cl, z_sg, z_255, z_lit, Int32.reduceToInt] at * <;> omega))
      refine ⟨fun _ => s36, fun a => ⟨fun _ => s36, fun b => absurd ?_ d⟩⟩
      unfold dgt
      clear pv p s36
      constructor <;> (first | omega | (simp (disch := omega) only [Int32.le_iff_toInt_le, Int32.lt_iff_toInt_lt, z_eq, z_in, nI_toInt, z_cl, z_m1, z_sg, z_255, Int32.reduceToInt] at * <;> omega) | (simp only [Int32.le_iff_toInt_le, Int32.lt_iff_toInt_lt, z_eq, z_in, z_add, z_sub, z_mul, z_neg, z_nI, z_cl, z_sg, z_255, z_lit, Int32.reduceToInt] at * <;> omega))
  unfold wp_Scn_hexAt
  rw [h.1.2.1]
  by_cases c : j < n
  · rw [if_pos c] at p
    obtain ⟨r1, r2, r3⟩ := h.1.rd c
    have hb := (h.1.2.2.2.2.2 j c).2
    refine br_f (by (first | omega | (simp (disch := omega) only [Int32.le_iff_toInt_le, Int32.lt_iff_toInt_lt, z_eq, z_in, nI_toInt, z_cl, z_m1, z_sg, z_255, Int32.reduceToInt] <;> omega) | (simp only [Int32.le_iff_toInt_le, Int32.lt_iff_toInt_lt, z_eq, z_in, z_add, z_sub, z_mul, z_neg, z_nI, z_cl, z_sg, z_255, z_lit, Int32.reduceToInt] <;> omega))) ⟨q, h.1.1, r2, ?_⟩
    rw [r1]
    refine h18 _ ?_
    rw [hex_sg hb.1 hb.2]
    exact p
  · rw [if_neg c] at p
    exact br_t (by (first | omega | (simp (disch := omega) only [Int32.le_iff_toInt_le, Int32.lt_iff_toInt_lt, z_eq, z_in, nI_toInt, z_cl, z_m1, z_sg, z_255, Int32.reduceToInt] <;> omega) | (simp only [Int32.le_iff_toInt_le, Int32.lt_iff_toInt_lt, z_eq, z_in, z_add, z_sub, z_mul, z_neg, z_nI, z_cl, z_sg, z_255, z_lit, Int32.reduceToInt] <;> omega))) (h18 _ p)
theorem d_readEscape {post : Int32 → St → Prop} {q : Nat} {x : St} {T : Nat → Int32} {n b : Nat} (h : ScC x q T n b (-1)) (hb : b < n)
    (p1 : (escL T n b).2.2 = -1 → ∀ y, FrN x y → fI y 10 7 = fI x 10 7 → ScC y q T n (b + (escL T n b).1) (-1) → post (escL T n b).2.1 y)
    (p0 : (escL T n b).2.2 ≠ -1 → ∀ y, FrN x y → fI y 10 7 = fI x 10 7 → ScC y q T n b (escL T n b).2.2 → post 0 y) : wp_Scn_readEscape post 10 x := by
  have hn := h.1.2.2.1
  unfold wp_Scn_readEscape
  rw [h.2.1, nI_1]
  refine c_byteAt h.1 (by omega) ?_
  -- a fault: how far behind
  have bad : ∀ (l1 l2 l3 : Int32) (w : Nat), w ≤ 3 → escL T n b = (0, 0, nI (if b + w < n then b else n)) → j_Scn_readEscape_101 post 10 l1 l2 l3 (nI w) x := by
    intro l1 l2 l3 w hw e
    rw [e] at p0
    unfold j_Scn_readEscape_101 j_Scn_readEscape_129
    rw [h.2.1, h.1.2.1, nI_add]
    by_cases g : b + w < n
    · rw [if_pos g] at p0
      refine br_t (by (first | omega | (simp (disch := omega) only [Int32.le_iff_toInt_le, Int32.lt_iff_toInt_lt, z_eq, z_in, nI_toInt, z_cl, z_m1, z_sg, z_255, Int32.reduceToInt] <;> omega) | (simp only [Int32.le_iff_toInt_le, Int32.lt_iff_toInt_lt, z_eq, z_in, z_add, z_sub, z_mul, z_neg, z_nI, z_cl, z_sg, z_255, z_lit, Int32.reduceToInt] <;> omega))) (c_refuse ?_)
      rw [if_pos h.2.2.1]
      exact p0 (nI_nm1 (by omega)) _ FrN.i (gI_ne (by decide)) h.ill
    · rw [if_neg g] at p0
      refine br_f (by (first | omega | (simp (disch := omega) only [Int32.le_iff_toInt_le, Int32.lt_iff_toInt_lt, z_eq, z_in, nI_toInt, z_cl, z_m1, z_sg, z_255, Int32.reduceToInt] <;> omega) | (simp only [Int32.le_iff_toInt_le, Int32.lt_iff_toInt_lt, z_eq, z_in, z_add, z_sub, z_mul, z_neg, z_nI, z_cl, z_sg, z_255, z_lit, Int32.reduceToInt] <;> omega))) (c_refuse ?_)
      rw [if_pos h.2.2.1]
      exact p0 (nI_nm1 (by omega)) _ FrN.i (gI_ne (by decide)) h.ill
  by_cases c1 : b + 1 < n
  · rw [if_pos c1]
    have two : (T (b + 1) = 39 ∨ T (b + 1) = 92) → j_Scn_readEscape_23 post 10 (T (b + 1)) x := by
      intro w
      have e : escL T n b = (2, T (b + 1), -1) := by unfold escL; rw [if_neg (fun z => z c1), if_pos w]
      rw [e] at p1
      unfold j_Scn_readEscape_23
      rw [h.2.1, show (2 : Int32) = nI 2 from rfl, nI_add]
      exact nm_e (p1 rfl _ FrN.i (gI_ne (by decide)) (h.go (by omega)))
    by_cases c2 : T (b + 1) = 39
    · exact br_t c2 (two (Or.inl c2))
    refine br_f c2 ?_
    by_cases c3 : T (b + 1) = 92
    · exact bn_t c3 (two (Or.inr c3))
    refine bn_f c3 ?_
    have c23 : ¬ (T (b + 1) = 39 ∨ T (b + 1) = 92) := fun z => z.elim c2 c3
    by_cases c4 : T (b + 1) = 120
    · have es : escL T n b = if ¬ b + 2 < n then (0, 0, nI n) else if hexV (T (b + 2)) = -1 then (0, 0, nI b) else if ¬ b + 3 < n then (0, 0, nI n) else if hexV (T (b + 3)) = -1 then (0, 0, nI b) else (4, 16 * hexV (T (b + 2)) + hexV (T (b + 3)), -1) := by
        unfold escL
        rw [if_neg (fun z => z c1), if_neg c23, if_neg (fun z => z c4)]
      refine bn_t c4 ?_
      rw [h.2.1, show (2 : Int32) = nI 2 from rfl, nI_add]
      refine d_hexAt h (by omega) ?_
      unfold j_Scn_readEscape_55
      by_cases a1 : b + 2 < n
      · rw [if_pos a1]
        by_cases a2 : hexV (T (b + 2)) = -1
        · rw [if_neg (fun z => z a1), if_pos a2] at es
          refine bn_t a2 ?_
          unfold j_Scn_readEscape_75
          exact bn_t rfl (br_t c4 (bn_t a2 (bad _ _ _ 2 (by decide) (by rw [if_pos a1]; exact es))))
        · refine bn_f a2 ?_
          rw [h.2.1, show (3 : Int32) = nI 3 from rfl, nI_add]
          refine d_hexAt h (by omega) ?_
          unfold j_Scn_readEscape_75
          by_cases a3 : b + 3 < n
          · rw [if_pos a3]
            by_cases a4 : hexV (T (b + 3)) = -1
            · rw [if_neg (fun z => z a1), if_neg a2, if_neg (fun z => z a3), if_pos a4] at es
              exact bn_t a4 (br_t c4 (bn_f a2 (bad _ _ _ 3 (by decide) (by rw [if_pos a3]; exact es))))
            · rw [if_neg (fun z => z a1), if_neg a2, if_neg (fun z => z a3), if_neg a4] at es
              rw [es] at p1
              refine bn_f a4 ?_
              rw [h.2.1, show (4 : Int32) = nI 4 from rfl, nI_add]
              refine nm_e ?_
              have := p1 rfl _ FrN.i (gI_ne (by decide)) (h.go (show b + 4 ≤ n by omega))
              rw [Int32.mul_comm]
              exact this
          · rw [if_neg a3]
            rw [if_neg (fun z => z a1), if_neg a2, if_pos a3] at es
            exact bn_t rfl (br_t c4 (bn_f a2 (bad _ _ _ 3 (by decide) (by rw [if_neg a3]; exact es))))
      · rw [if_neg a1]
        rw [if_pos a1] at es
        refine bn_t rfl ?_
        unfold j_Scn_readEscape_75
        exact bn_t rfl (br_t c4 (bn_t rfl (bad _ _ _ 2 (by decide) (by rw [if_neg a1]; exact es))))
    · refine bn_f c4 ?_
      unfold j_Scn_readEscape_55
      refine bn_t rfl ?_
      unfold j_Scn_readEscape_75
      refine bn_t rfl (br_f c4 (bad _ _ _ 1 (by decide) ?_))
      rw [if_pos c1]
      unfold escL
      rw [if_neg (fun z => z c1), if_neg c23, if_pos c4]
  · rw [if_neg c1]
    refine br_f (by decide) (bn_f (by decide) (bn_f (by decide) ?_))
    unfold j_Scn_readEscape_55
    refine bn_t rfl ?_
    unfold j_Scn_readEscape_75
    refine bn_t rfl (br_f (by decide) (bad _ _ _ 1 (by decide) ?_))
    rw [if_neg c1]
    unfold escL
    rw [if_pos c1]
theorem hexV_bd {v : Int32} (h : hexV v ≠ -1) : 0 ≤ hexV v ∧ hexV v ≤ 15 := by
  unfold hexV at h ⊢
  by_cases d : dgt v
  · rw [if_pos d]
    unfold dgt at d
    constructor <;> (clear h; rw [Int32.le_iff_toInt_le, z_sub]; simp only [Int32.le_iff_toInt_le, Int32.reduceToInt] at *; omega)
  · rw [if_neg d] at h ⊢
    by_cases g : 97 ≤ v ∧ v ≤ 102
    · rw [if_pos g]
      constructor <;> (clear h d; rw [Int32.le_iff_toInt_le, z_add, z_sub]; simp only [Int32.le_iff_toInt_le, Int32.reduceToInt] at *; omega)
    · rw [if_neg g] at h
      exact absurd rfl h
theorem esc_bd {T : Nat → Int32} {n k : Nat} (hn : n < 2 ^ 31) (hk : k < 2 ^ 31) (hT : ∀ i, i < n → 0 ≤ T i ∧ T i ≤ 255) (h : (escL T n k).2.2 = -1) : 0 ≤ (escL T n k).2.1 ∧ (escL T n k).2.1 ≤ 255 := by
  unfold escL at h ⊢
  split at h
  · exact absurd h (nI_nm1 hn)
  rename_i c1
  have c1 : k + 1 < n := Classical.byContradiction c1
  rw [if_neg (fun z => z c1)]
  split at h
  · rename_i c2
    rw [if_pos c2]
    exact hT _ c1
  rename_i c2
  rw [if_neg c2]
  split at h
  · exact absurd h (nI_nm1 hk)
  rename_i c3
  rw [if_neg c3]
  split at h
  · exact absurd h (nI_nm1 hn)
  rename_i c4
  rw [if_neg c4]
  split at h
  · exact absurd h (nI_nm1 hk)
  rename_i c5
  rw [if_neg c5]
  split at h
  · exact absurd h (nI_nm1 hn)
  rename_i c6
  rw [if_neg c6]
  split at h
  · exact absurd h (nI_nm1 hk)
  rename_i c7
  rw [if_neg c7]
  have b1 := hexV_bd c5
  have b2 := hexV_bd c7
  show 0 ≤ 16 * hexV (T (k + 2)) + hexV (T (k + 3)) ∧ 16 * hexV (T (k + 2)) + hexV (T (k + 3)) ≤ 255
  generalize hexV (T (k + 2)) = u at *
  generalize hexV (T (k + 3)) = w at *
  clear h c5 c7 hT
  constructor <;> (rw [Int32.le_iff_toInt_le, z_add, z_mul]; simp only [Int32.le_iff_toInt_le, Int32.reduceToInt] at *; omega)
/-- nothing but the scan and a stretch of a row has changed -/
def FrB (r lo hi : Nat) (x y : St) : Prop := (∀ o k, ¬ o = 10 → y.1 o k = x.1 o k) ∧ (∀ o k, ¬ o = 10 → y.2.1 o k = x.2.1 o k) ∧ y.2.2.1 = x.2.2.1 ∧ (∀ a, a ≠ r → y.2.2.2.1 a = x.2.2.2.1 a) ∧ (∀ i, i < lo ∨ hi ≤ i → y.2.2.2.1 r i = x.2.2.2.1 r i) ∧ y.2.2.2.2 = x.2.2.2.2
theorem FrB.refl (r lo hi : Nat) (x : St) : FrB r lo hi x x := ⟨fun _ _ _ => rfl, fun _ _ _ => rfl, rfl, fun _ _ => rfl, fun _ _ => rfl, rfl⟩
theorem FrB.trans {r lo hi : Nat} {x y z : St} (h : FrB r lo hi x y) (k : FrB r lo hi y z) : FrB r lo hi x z :=
  ⟨fun o i c => (k.1 o i c).trans (h.1 o i c), fun o i c => (k.2.1 o i c).trans (h.2.1 o i c), k.2.2.1.trans h.2.2.1, fun a c => (k.2.2.2.1 a c).trans (h.2.2.2.1 a c), fun i c => (k.2.2.2.2.1 i c).trans (h.2.2.2.2.1 i c), k.2.2.2.2.2.trans h.2.2.2.2.2⟩
theorem FrT.b {r lo hi : Nat} {x y : St} (h : FrT x y) : FrB r lo hi x y := by
  have e := h.2.2
  refine ⟨h.1, h.2.1, by rw [e], fun a _ => by rw [e], fun i _ => by rw [e], by rw [e]⟩
theorem FrB.a {r lo hi i : Nat} {x : St} {v : Int32} (h1 : lo ≤ i) (h2 : i < hi) (h3 : i < 2 ^ 31) : FrB r lo hi x (setA x r (nI i) v) := by
  refine ⟨fun _ _ _ => rfl, fun _ _ _ => rfl, rfl, fun a c => gA_ne c, fun j c => ?_, rfl⟩
  show fA (setA x r (nI i) v) r j = _
  rw [gA_at, nI_clamp h3, upd_ne (by omega)]
theorem ScC.a {x : St} {q r : Nat} {T : Nat → Int32} {n k : Nat} {e i v : Int32} (h : ScC x q T n k e) (hq : q ≠ r) : ScC (setA x r i v) q T n k e := by
  obtain ⟨⟨h1, h2, h3, h4, h5, h6⟩, h7, h8, h9⟩ := h
  exact ⟨⟨h1, h2, h3, h4, h5, fun i hi => by rw [gA_ne hq]; exact h6 i hi⟩, h7, h8, h9⟩
theorem d_readQuoted {post : St → Prop} {q r a : Nat} {x : St} {T : Nat → Int32} {n k : Nat} (h : ScC x q T n k (-1)) (hk : k < n) (hq : q ≠ r) (hr : fN x r < 2 ^ 31) (ha : a + (n - k) ≤ fN x r)
    (p1 : (qtO T n (k + 1) []).1 = -1 → ∀ y, FrB r a (a + (n - k)) x y → ScC y q T n (qtO T n (k + 1) []).2.1 (-1) → fI y 10 7 = nI (qtO T n (k + 1) []).2.2.length → (∀ i, i < (qtO T n (k + 1) []).2.2.length → fA y r (a + i) = ((qtO T n (k + 1) []).2.2.getD i 0).toInt8.toInt32 ∧ 0 ≤ (qtO T n (k + 1) []).2.2.getD i 0 ∧ (qtO T n (k + 1) []).2.2.getD i 0 ≤ 255) → (qtO T n (k + 1) []).2.2.length ≤ 255 → k + (qtO T n (k + 1) []).2.2.length + 2 ≤ (qtO T n (k + 1) []).2.1 → post y)
    (p0 : (qtO T n (k + 1) []).1 ≠ -1 → ∀ y j m, FrB r a (a + (n - k)) x y → ScC y q T n j (qtO T n (k + 1) []).1 → fI y 10 7 = nI m → m ≤ 255 → m ≤ n → post y) : wp_Scn_readQuoted post 10 r (nI a) x := by
  have hn := h.1.2.2.1
  have hT : ∀ i, i < n → 0 ≤ T i ∧ T i ≤ 255 := fun i hi => (h.1.2.2.2.2.2 i hi).2
  unfold wp_Scn_readQuoted
  refine nm_e (nm_r (e' := setI (setI x 10 7 0) 10 2 (nI (k + 1))) (by rw [gI_ne (by decide), h.2.1, nI_1]) ?_)
  have s0 : ScC (setI (setI x 10 7 0) 10 2 (nI (k + 1))) q T n (k + 1) (-1) := (h.oth (by decide) (by decide) (by decide)).go (by omega)
  refine lp_Scn_readQuoted_17 (fun a0 a1 a2 a3 y => 10 = a0 ∧ r = a1 ∧ nI a = a2 ∧ ∃ j b i, nI i = a3 ∧ i + k + 1 ≤ j ∧ FrB r a (a + (n - k)) x y ∧ ScC y q T n j (-1) ∧ fI y 10 7 = nI b.length ∧ k + 1 + b.length ≤ j ∧ b.length ≤ 255 ∧ (∀ i, i < b.length → fA y r (a + i) = (b.getD i 0).toInt8.toInt32 ∧ 0 ≤ b.getD i 0 ∧ b.getD i 0 ≤ 255) ∧ qtO T n (k + 1) [] = qtO T n j b) (fun _ _ _ _ y => n + 1 - (fI y 10 2).toNatClampNeg) ?_ _ _ _ _ _ ⟨rfl, rfl, rfl, k + 1, [], 0, rfl, by omega, (FrT.i.trans FrT.i).b, s0, by rw [gI_ne (by decide), gI_at]; rfl, Nat.le_refl _, by decide, fun i hi => absurd hi (Nat.not_lt_zero i), rfl⟩
  rintro R a0 a1 a2 a3 y ⟨rfl, rfl, rfl, j, b, i, rfl, hi, fy, sy, y7, hbj, hb, hby, hQ⟩ ih
  have hj := sy.2.2.2
  have yN : fN y r = fN x r := by show y.2.2.2.2.2 r = _; rw [fy.2.2.2.2.2]
  unfold j_Scn_readQuoted_17
  rw [sy.1.2.1, sy.2.1]
  refine br_f (by (first | omega | (simp (disch := omega) only [Int32.le_iff_toInt_le, Int32.lt_iff_toInt_lt, z_eq, z_in, nI_toInt, z_cl, z_m1, z_sg, z_255, Int32.reduceToInt] <;> omega) | (simp only [Int32.le_iff_toInt_le, Int32.lt_iff_toInt_lt, z_eq, z_in, z_add, z_sub, z_mul, z_neg, z_nI, z_cl, z_sg, z_255, z_lit, Int32.reduceToInt] <;> omega))) (c_byteAt sy.1 (by omega) ?_)
  have bad : ¬ (j < n ∧ T j = 39) → (¬ j < n ∨ T j < 32 ∨ 126 < T j ∨ b.length = 255) → post (setI y 10 3 (nI j)) := by
    intro d w
    have e : qtO T n (k + 1) [] = (nI j, j, b) := by rw [hQ, qtO_eq (by omega), if_neg d, if_pos w]
    rw [e] at p0
    exact p0 (nI_nm1 (by omega)) _ j b.length (fy.trans FrT.i.b) sy.ill (by rw [gI_ne (by decide)]; exact y7) hb (by omega)
  by_cases g : j < n
  · rw [if_pos g]
    have hp := hT j g
    refine bn_f (fun z => by rw [z] at hp; exact absurd hp.1 (by decide)) ?_
    by_cases d : T j = 39
    · have e : qtO T n (k + 1) [] = (-1, j + 1, b) := by rw [hQ, qtO_eq (by omega), if_pos ⟨g, d⟩]
      rw [e] at p1
      refine bn_t d ?_
      rw [sy.2.1, nI_1]
      exact nm_e (p1 rfl _ (fy.trans FrT.i.b) (sy.go (by omega)) (by rw [gI_ne (by decide)]; exact y7) hby hb (by show k + b.length + 2 ≤ j + 1; omega))
    have d' : ¬ (j < n ∧ T j = 39) := fun z => d z.2
    have bad' : (¬ j < n ∨ T j < 32 ∨ 126 < T j ∨ b.length = 255) → ∀ l4, j_Scn_readQuoted_103 post 10 r (nI a) (nI i) l4 y := by
      intro w l4
      unfold j_Scn_readQuoted_103
      rw [sy.2.1]
      refine c_refuse ?_
      rw [if_pos sy.2.2.1]
      exact bad d' w
    refine bn_f d ⟨fun w => bad' (Or.inr (Or.inl w)) _, fun w => ⟨fun w2 => bad' (Or.inr (Or.inr (Or.inl w2))) _, fun w2 => ?_⟩⟩
    rw [y7]
    by_cases w3 : b.length = 255
    · exact br_t (by rw [w3]; decide) (bad' (Or.inr (Or.inr (Or.inr w3))) _)
    · have nb : ¬ (¬ j < n ∨ T j < 32 ∨ 126 < T j ∨ b.length = 255) := by
        rintro (z | z | z | z)
        · exact z g
        · exact w z
        · exact w2 z
        · exact w3 z
      have e0 := hQ
      rw [qtO_eq (k := j) (by omega), if_neg d', if_neg nb] at e0
      refine br_f (by (first | omega | (simp (disch := omega) only [Int32.le_iff_toInt_le, Int32.lt_iff_toInt_lt, z_eq, z_in, nI_toInt, z_cl, z_m1, z_sg, z_255, Int32.reduceToInt] <;> omega) | (simp only [Int32.le_iff_toInt_le, Int32.lt_iff_toInt_lt, z_eq, z_in, z_add, z_sub, z_mul, z_neg, z_nI, z_cl, z_sg, z_255, z_lit, Int32.reduceToInt] <;> omega))) ?_
      rw [nI_add, yN]
      refine br_t (by (first | omega | (simp (disch := omega) only [Int32.le_iff_toInt_le, Int32.lt_iff_toInt_lt, z_eq, z_in, nI_toInt, z_cl, z_m1, z_sg, z_255, Int32.reduceToInt] <;> omega) | (simp only [Int32.le_iff_toInt_le, Int32.lt_iff_toInt_lt, z_eq, z_in, z_add, z_sub, z_mul, z_neg, z_nI, z_cl, z_sg, z_255, z_lit, Int32.reduceToInt] <;> omega))) ?_
      have put : ∀ (Y : St) (v : Int32) (j2 : Nat) (l4 : Int32), FrB r a (a + (n - k)) x Y → fA Y r = fA y r → ScC Y q T n j2 (-1) → fI Y 10 7 = nI b.length → j < j2 → 0 ≤ v ∧ v ≤ 255 → qtO T n (k + 1) [] = qtO T n j2 (b ++ [v]) → j_Scn_readQuoted_142 post R 10 r (nI a) (nI i) l4 v Y := by
        intro Y v j2 l4 g1 g3 g4 g5 g6 g7 g8
        have hl2 : (b ++ [v]).length = b.length + 1 := by rw [List.length_append]; rfl
        have hj2 := g4.2.2.2
        have YN : fN Y r = fN x r := by show Y.2.2.2.2.2 r = _; rw [g1.2.2.2.2.2]
        unfold j_Scn_readQuoted_142
        refine c_good ?_
        rw [if_pos g4.2.2.1]
        refine bn_f (by decide) ?_
        rw [g5, nI_add, YN]
        refine ⟨vp_in_nI (by omega) hr, nm_r (e' := setA Y r (nI (a + b.length)) v.toInt8.toInt32) ?_ (nm_r (e' := setI (setA Y r (nI (a + b.length)) v.toInt8.toInt32) 10 7 (nI (b.length + 1))) ?_ ?_)⟩
        · congr 1
          show v.toInt8.toInt32.toInt8.toInt32 = v.toInt8.toInt32
          (first | omega | (simp (disch := omega) only [Int32.le_iff_toInt_le, Int32.lt_iff_toInt_lt, z_eq, z_in, nI_toInt, z_cl, z_m1, z_sg, z_255, Int32.reduceToInt] <;> omega) | (simp only [Int32.le_iff_toInt_le, Int32.lt_iff_toInt_lt, z_eq, z_in, z_add, z_sub, z_mul, z_neg, z_nI, z_cl, z_sg, z_255, z_lit, Int32.reduceToInt] <;> omega))
        · rw [show fI (setA Y r (nI (a + b.length)) v.toInt8.toInt32) 10 7 = fI Y 10 7 from rfl, g5, nI_1]
        · rw [nI_1]
          refine ih _ _ _ _ _ ⟨rfl, rfl, rfl, j2, b ++ [v], i + 1, rfl, by omega, (g1.trans (FrB.a (by omega) (by omega) (by omega))).trans FrT.i.b, (g4.a hq).oth (by decide) (by decide) (by decide), by rw [gI_at, hl2], by rw [hl2]; omega, by rw [hl2]; omega, fun m hm => ?_, g8⟩ ?_
          · show fA (setA Y r (nI (a + b.length)) v.toInt8.toInt32) r (a + m) = _ ∧ _
            rw [gA_at, nI_clamp (by omega), getD_snoc hm]
            rw [hl2] at hm
            by_cases c : m < b.length
            · rw [upd_ne (by omega), if_pos c, g3]
              exact hby m c
            · rw [show a + m = a + b.length by omega, upd_at, if_neg c]
              exact ⟨rfl, g7⟩
          · show n + 1 - (fI (setA Y r (nI (a + b.length)) v.toInt8.toInt32) 10 2).toNatClampNeg < n + 1 - (fI y 10 2).toNatClampNeg
            rw [show fI (setA Y r (nI (a + b.length)) v.toInt8.toInt32) 10 2 = fI Y 10 2 from rfl, g4.2.1, sy.2.1, nI_clamp (by omega), nI_clamp (by omega)]
            omega
      refine ⟨fun w4 => ?_, fun w4 => ?_⟩
      · rw [if_neg w4] at e0
        rw [sy.2.1, nI_1]
        exact nm_e (put _ (T j) (j + 1) _ (fy.trans FrT.i.b) rfl (sy.go (by omega)) (by rw [gI_ne (by decide)]; exact y7) (by omega) hp e0)
      · rw [if_pos w4] at e0
        refine d_readEscape sy g (fun w5 Y fY Y7 sY => ?_) (fun w5 Y fY Y7 sY => ?_)
        · rw [if_pos w5] at e0
          have := esc_ok w5 (by omega) (by omega)
          have er : fA Y r = fA y r := fY.2.1 r (fun z => z)
          refine put Y _ _ _ (fy.trans fY.t.b) er sY (Y7.trans y7) (by omega) (esc_bd (by omega) (by omega) hT w5) e0
        · rw [if_neg w5] at e0
          unfold j_Scn_readQuoted_142
          refine c_good ?_
          rw [if_neg (fun z => w5 (sY.2.2.1.symm.trans z))]
          rw [e0] at p0
          have er : fA Y r = fA y r := fY.2.1 r (fun z => z)
          refine bn_t rfl (p0 w5 Y j b.length (fy.trans fY.t.b) sY (Y7.trans y7) hb (by omega))
  · rw [if_neg g]
    have e : j = n := by omega
    refine bn_t rfl ?_
    rw [sy.1.2.1]
    refine c_refuse ?_
    rw [if_pos sy.2.2.1, ← e]
    exact bad (fun z => g z.1) (Or.inl g)
