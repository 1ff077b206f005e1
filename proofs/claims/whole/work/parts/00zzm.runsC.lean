/-! RUNS of the class -/
def stRow (r : Nat) : Prop := r < 152 ∧ ¬ skRow r ∧ ∀ s, SnkId s → r ≠ stC s 4
theorem stRow.keep {r s : Nat} {x y : St} (h : stRow r) (hs : SnkId s) (hK : SkS x) (f : FK s x y) : fA y r = fA x r ∧ fN y r = fN x r := by
  refine f.2.2.2.1 r (Or.inl h.1) (fun z => z.elim) (fun t e z => ?_)
  subst e
  obtain ⟨-, q, a1, a2, -⟩ := hK t hs
  rw [z] at a1
  rw [← Option.some.inj a1] at a2
  exact h.2.1 a2
theorem RwI.k {r s n : Nat} {R : Nat → Int32} (h : stRow r) (hs : SnkId s) : ∀ x y, SkS x → FK s x y → RwI x r R n → RwI y r R n := fun x y hK f z => by
  have e := h.keep hs hK f
  unfold RwI
  rw [e.1, e.2]
  exact z
def AppV (κ : Nat → Nat) (s : Nat) (B C : List Nat) (v : Int32) (Pre : St → Prop) (W : (Int32 → St → Prop) → Nat → Nat → St → Prop) : Prop := ∃ κ', Kle κ κ' ∧ ∀ x (post : Int32 → St → Prop) kb nb, SkS x → Caps x κ → Snk x s B → Pre x → KP κ ≤ kb + KP κ' → NP κ ≤ nb + NP κ' → (∀ y, SkS y → Caps y κ' → FK s x y → Snk y s (B ++ C) → post v y) → W post kb nb x
theorem c_sameFrom {post : Int32 → St → Prop} {x : St} {r n k most : Nat} {R : Nat → Int32} (h : RwI x r R n) (hk : k < n) (h1 : 1 ≤ most) (hm : most < 2 ^ 30) (p : post (nI (min most (sm R n k))) x) : wp_Snk_sameFrom post r (nI n) (nI k) (nI most) x := by
  obtain ⟨a1, a2, a3⟩ := h
  have hsp := sm_pos (R := R) hk
  have hsl := sm_le (R := R) (show k ≤ n by omega)
  have hend : endP (fun v => decide (v = R k)) R n k = k + sm R n k := by
    unfold sm
    have := endP_le' (fun v => decide (v = R k)) R n k
    omega
  refine lp_Snk_sameFrom_3 (fun l0 l1 l2 l3 l4 y => r = l0 ∧ nI n = l1 ∧ nI k = l2 ∧ nI most = l3 ∧ x = y ∧ ∃ e, nI e = l4 ∧ 1 ≤ e ∧ e ≤ most ∧ e ≤ sm R n k ∧ endP (fun v => decide (v = R k)) R n (k + e) = k + sm R n k) (fun _ _ _ _ l4 _ => n - l4.toNatClampNeg) ?_ _ _ _ _ _ _ ⟨rfl, rfl, rfl, rfl, rfl, 1, rfl, Nat.le_refl _, h1, hsp, by rw [← hend, endP_go hk (decide_eq_true rfl)]⟩
  rintro Q l0 l1 l2 l3 l4 y ⟨rfl, rfl, rfl, rfl, rfl, e, rfl, e1, e2, e3, e4⟩ ih
  have out : (e = most ∨ e = sm R n k) → j_Snk_sameFrom_35 post r (nI n) (nI k) (nI most) (nI e) x := by
    intro z
    unfold j_Snk_sameFrom_35
    have : min most (sm R n k) = e := by omega
    rw [this] at p
    exact p
  unfold j_Snk_sameFrom_3
  rw [nI_add]
  by_cases c : e < most
  · refine br_f (by (first | omega | (simp (disch := omega) only [Int32.le_iff_toInt_le, Int32.lt_iff_toInt_lt, z_eq, z_in, nI_toInt, z_cl, z_m1, z_sg, z_255, Int32.reduceToInt] <;> omega) | (simp only [Int32.le_iff_toInt_le, Int32.lt_iff_toInt_lt, z_eq, z_in, z_add, z_sub, z_mul, z_neg, z_nI, z_cl, z_sg, z_255, z_lit, Int32.reduceToInt] <;> omega))) ?_
    by_cases c2 : k + e < n
    · refine br_f (by (first | omega | (simp (disch := omega) only [Int32.le_iff_toInt_le, Int32.lt_iff_toInt_lt, z_eq, z_in, nI_toInt, z_cl, z_m1, z_sg, z_255, Int32.reduceToInt] <;> omega) | (simp only [Int32.le_iff_toInt_le, Int32.lt_iff_toInt_lt, z_eq, z_in, z_add, z_sub, z_mul, z_neg, z_nI, z_cl, z_sg, z_255, z_lit, Int32.reduceToInt] <;> omega))) ⟨vp_in_nI (by omega) a2, vp_in_nI (by omega) a2, ?_⟩
      rw [rA_nI (by omega), rA_nI (by omega), a3 _ c2, a3 k hk]
      by_cases d : R (k + e) = R k
      · refine bn_t d ?_
        rw [nI_1]
        have e5 : endP (fun v => decide (v = R k)) R n (k + (e + 1)) = k + sm R n k := by rw [← e4, endP_go (k := k + e) c2 (decide_eq_true d)]; rfl
        have := endP_le' (fun v => decide (v = R k)) R n (k + (e + 1))
        refine ih _ _ _ _ _ _ ⟨rfl, rfl, rfl, rfl, rfl, e + 1, rfl, by omega, by omega, by omega, e5⟩ ?_
        rw [nI_clamp (by omega), nI_clamp (by omega)]; omega
      · refine bn_f d (out (Or.inr ?_))
        rw [endP_no (fun z => d (of_decide_eq_true z.2))] at e4
        omega
    · refine br_t (by (first | omega | (simp (disch := omega) only [Int32.le_iff_toInt_le, Int32.lt_iff_toInt_lt, z_eq, z_in, nI_toInt, z_cl, z_m1, z_sg, z_255, Int32.reduceToInt] <;> omega) | (simp only [Int32.le_iff_toInt_le, Int32.lt_iff_toInt_lt, z_eq, z_in, z_add, z_sub, z_mul, z_neg, z_nI, z_cl, z_sg, z_255, z_lit, Int32.reduceToInt] <;> omega))) (out (Or.inr ?_))
      rw [endP_no (fun z => c2 z.1)] at e4
      omega
  · exact br_t (by (first | omega | (simp (disch := omega) only [Int32.le_iff_toInt_le, Int32.lt_iff_toInt_lt, z_eq, z_in, nI_toInt, z_cl, z_m1, z_sg, z_255, Int32.reduceToInt] <;> omega) | (simp only [Int32.le_iff_toInt_le, Int32.lt_iff_toInt_lt, z_eq, z_in, z_add, z_sub, z_mul, z_neg, z_nI, z_cl, z_sg, z_255, z_lit, Int32.reduceToInt] <;> omega))) (out (Or.inl (by omega)))
theorem nbit_tb (v i : Nat) : nbit v i = if v.testBit i = true then 1 else 0 := by
  unfold nbit
  rw [Nat.testBit_eq_decide_div_mod_eq]
  by_cases c : v / 2 ^ i % 2 = 1
  · rw [c, if_pos (decide_eq_true rfl)]
  · rw [if_neg (by rw [decide_eq_true_eq]; exact c)]
    omega
theorem nbit_sx {v : Int32} {j : Nat} (h : j < 32) : nbit (uL v.toInt64) j = nbit (uI v) j := by
  rw [nbit_tb, nbit_tb]
  have : (uL v.toInt64).testBit j = (uI v).testBit j := by
    show (v.toInt64.toBitVec).getLsbD j = v.toBitVec.getLsbD j
    rw [Int32.toBitVec_toInt64, BitVec.getLsbD_signExtend]
    simp [h]
    intro z
    omega
  rw [this]
theorem fix_sx {v : Int32} {n : Nat} (h : n ≤ 4) : fixB (uL v.toInt64) n = fixB (uI v) n := by
  have key : uL v.toInt64 % 2 ^ 32 = uI v % 2 ^ 32 := by
    apply Nat.eq_of_testBit_eq
    intro i
    rw [Nat.testBit_mod_two_pow, Nat.testBit_mod_two_pow]
    by_cases c : i < 32
    · have := nbit_sx (v := v) c
      rw [nbit_tb, nbit_tb] at this
      rw [decide_eq_true c, Bool.true_and, Bool.true_and]
      cases h1 : (uL v.toInt64).testBit i <;> cases h2 : (uI v).testBit i <;> simp [h1, h2] at this ⊢
    · rw [decide_eq_false c, Bool.false_and, Bool.false_and]
  have go : ∀ d k, k + d ≤ 4 → fixF (uL v.toInt64) d k = fixF (uI v) d k := by
    intro d
    induction d with
    | zero => intro k _; rfl
    | succ d ih =>
      intro k hk
      have e : uL v.toInt64 / 2 ^ (8 * k) % 256 = uI v / 2 ^ (8 * k) % 256 := by
        generalize uL v.toInt64 = a at *
        generalize uI v = b at *
        have : k = 0 ∨ k = 1 ∨ k = 2 ∨ k = 3 := by omega
        rcases this with rfl | rfl | rfl | rfl <;> simp only [Nat.mul_zero, Nat.mul_one, Nat.reduceMul, Nat.reducePow] at key ⊢ <;> omega
      show _ :: fixF _ d (k + 1) = _ :: fixF _ d (k + 1)
      rw [e, ih (k + 1) (by omega)]
  exact go n 0 (by omega)
theorem Snk.bit {x : St} {s : Nat} {B : List Nat} {S : Nat → Nat} (h : Snk x s B) : BitS x s B S 0 := ⟨by show Sn x s (B ++ []); rw [List.append_nil]; exact h.2.2, h.1, h.2.1⟩
theorem BitS.snk {x : St} {s t m : Nat} {B : List Nat} {S : Nat → Nat} (h : BitS x s B S t) (e : t = 8 * m) : Snk x s (B ++ packB S m) := by
  have h1 : t / 8 = m := by omega
  have h2 : t % 8 = 0 := by omega
  obtain ⟨a, b, c⟩ := h
  rw [h1] at a
  rw [h2] at b c
  exact ⟨b, c, a⟩
/-- the numbers of some groups, one by one -/
theorem k_groupsL {s r n k w g : Nat} {R : Nat → Int32} {B : List Nat} (hs : SnkId s) (hr : stRow r) (hn : n ≤ 10000) (hk : k < n) (hw : w ≤ 32) (hg : k + 8 * g < n + 8) : ∀ m i f κ, i + m = 8 * g → m < f → (∀ t, SnkId t → κ t ≤ roomOf t) →
    ∃ κ', Kle κ κ' ∧ ∀ x (post : Int32 → St → Prop) kb nb, SkS x → Caps x κ → BitS x s B (gS R n k w) (i * w) → RwI x r R n → KP κ ≤ kb + KP κ' → NP κ ≤ nb + NP κ' → (∀ y, SkS y → Caps y κ' → FK s x y → BitS y s B (gS R n k w) (8 * g * w) → post (nI (k + 8 * g)) y) → wl_Snk_putGroups_53 post f s r (nI n) (nI k) (nI w) (nI (k + 8 * g)) (nI (k + i)) kb nb x := by
  intro m
  induction m with
  | zero =>
    intro i f κ hi hf hκ
    obtain ⟨f, rfl⟩ : ∃ e, f = e + 1 := ⟨f - 1, by omega⟩
    have ei : i = 8 * g := by omega
    subst ei
    refine ⟨κ, Kle.refl hκ, fun x post kb nb hK hC h hR _ _ p => ?_⟩
    show j_Snk_putGroups_53 post _ s r _ _ _ _ _ kb nb x
    unfold j_Snk_putGroups_53
    exact br_t (by (first | omega | (simp (disch := omega) only [Int32.le_iff_toInt_le, Int32.lt_iff_toInt_lt, z_eq, z_in, nI_toInt, z_cl, z_m1, z_sg, z_255, Int32.reduceToInt] <;> omega) | (simp only [Int32.le_iff_toInt_le, Int32.lt_iff_toInt_lt, z_eq, z_in, z_add, z_sub, z_mul, z_neg, z_nI, z_cl, z_sg, z_255, z_lit, Int32.reduceToInt] <;> omega))) (p x hK hC (FX.refl x) h)
  | succ m ih =>
    intro i f κ hi hf hκ
    obtain ⟨f, rfl⟩ : ∃ e, f = e + 1 := ⟨f - 1, by omega⟩
    have hS := gS_le R n k w
    have bits : ∀ v : Int64, (∀ j, j < w → nbit (if k + i < n then uI (R (k + i)) else 0) j = nbit (uL v) j) → AppB κ s B (gS R n k w) (i * w) (i * w + w) (fun x => RwI x r R n) (fun post kb nb x => wp_Snk_putBits post s v (nI w) kb nb x) := fun v hv => k_bits hs (RwI.k hr hs) hS (by omega) (fun j hj => by
      rw [← hv j hj]
      unfold gS
      have e1 : (i * w + j) / w = i := by rw [Nat.add_comm, Nat.add_mul_div_right _ _ (by omega), Nat.div_eq_of_lt hj, Nat.zero_add]
      have e2 : (i * w + j) % w = j := by rw [Nat.add_comm, Nat.add_mul_mod_self_right, Nat.mod_eq_of_lt hj]
      rw [e1, e2]) hκ
    have e1w : i * w + w = (i + 1) * w := by rw [Nat.add_mul, Nat.one_mul]
    by_cases c : k + i < n
    · obtain ⟨κ1, m1, f1⟩ := bits (R (k + i)).toInt64 (fun j hj => by rw [if_pos c, nbit_sx (by omega)])
      obtain ⟨κ2, m2, f2⟩ := ih (i + 1) f κ1 (by omega) (by omega) (fun t ht => (m1 t ht).2)
      refine ⟨κ2, m1.trans m2, fun x post kb nb hK hC h hR hkb hnb p => ?_⟩
      show j_Snk_putGroups_53 post _ s r _ _ _ _ _ kb nb x
      unfold j_Snk_putGroups_53 j_Snk_putGroups_76
      refine br_f (by (first | omega | (simp (disch := omega) only [Int32.le_iff_toInt_le, Int32.lt_iff_toInt_lt, z_eq, z_in, nI_toInt, z_cl, z_m1, z_sg, z_255, Int32.reduceToInt] <;> omega) | (simp only [Int32.le_iff_toInt_le, Int32.lt_iff_toInt_lt, z_eq, z_in, z_add, z_sub, z_mul, z_neg, z_nI, z_cl, z_sg, z_255, z_lit, Int32.reduceToInt] <;> omega))) (br_f (by (first | omega | (simp (disch := omega) only [Int32.le_iff_toInt_le, Int32.lt_iff_toInt_lt, z_eq, z_in, nI_toInt, z_cl, z_m1, z_sg, z_255, Int32.reduceToInt] <;> omega) | (simp only [Int32.le_iff_toInt_le, Int32.lt_iff_toInt_lt, z_eq, z_in, z_add, z_sub, z_mul, z_neg, z_nI, z_cl, z_sg, z_255, z_lit, Int32.reduceToInt] <;> omega))) ⟨vp_in_nI (by have := hR.1; omega) hR.2.1, ?_⟩)
      rw [rA_nI (by omega), hR.2.2 _ c]
      refine bseq m1 m2 hkb hnb (fun k1 n1 k2 n2 b1 b2 b3 b4 => f1 x _ k1 n1 hK hC h hR b1 b2 (fun y y1 y2 y3 y4 => ?_))
      rw [nI_1]
      rw [e1w] at y4
      exact f2 y post k2 n2 y1 y2 y4 (RwI.k hr hs x y hK y3 hR) b3 b4 (fun z z1 z2 z3 z4 => p z z1 z2 (FK.trans hs y3 z3) z4)
    · obtain ⟨κ1, m1, f1⟩ := bits 0 (fun j hj => by rw [if_neg c]; rfl)
      obtain ⟨κ2, m2, f2⟩ := ih (i + 1) f κ1 (by omega) (by omega) (fun t ht => (m1 t ht).2)
      refine ⟨κ2, m1.trans m2, fun x post kb nb hK hC h hR hkb hnb p => ?_⟩
      show j_Snk_putGroups_53 post _ s r _ _ _ _ _ kb nb x
      unfold j_Snk_putGroups_53 j_Snk_putGroups_76
      refine br_f (by (first | omega | (simp (disch := omega) only [Int32.le_iff_toInt_le, Int32.lt_iff_toInt_lt, z_eq, z_in, nI_toInt, z_cl, z_m1, z_sg, z_255, Int32.reduceToInt] <;> omega) | (simp only [Int32.le_iff_toInt_le, Int32.lt_iff_toInt_lt, z_eq, z_in, z_add, z_sub, z_mul, z_neg, z_nI, z_cl, z_sg, z_255, z_lit, Int32.reduceToInt] <;> omega))) (br_t (by (first | omega | (simp (disch := omega) only [Int32.le_iff_toInt_le, Int32.lt_iff_toInt_lt, z_eq, z_in, nI_toInt, z_cl, z_m1, z_sg, z_255, Int32.reduceToInt] <;> omega) | (simp only [Int32.le_iff_toInt_le, Int32.lt_iff_toInt_lt, z_eq, z_in, z_add, z_sub, z_mul, z_neg, z_nI, z_cl, z_sg, z_255, z_lit, Int32.reduceToInt] <;> omega))) ?_)
      refine bseq m1 m2 hkb hnb (fun k1 n1 k2 n2 b1 b2 b3 b4 => f1 x _ k1 n1 hK hC h hR b1 b2 (fun y y1 y2 y3 y4 => ?_))
      rw [nI_1]
      rw [e1w] at y4
      exact f2 y post k2 n2 y1 y2 y4 (RwI.k hr hs x y hK y3 hR) b3 b4 (fun z z1 z2 z3 z4 => p z z1 z2 (FK.trans hs y3 z3) z4)
theorem k_groups {κ : Nat → Nat} {s r n k w : Nat} {R : Nat → Int32} {B : List Nat} (hs : SnkId s) (hr : stRow r) (hn : n ≤ 10000) (hk : k < n) (hw : w ≤ 32) (hκ : ∀ t, SnkId t → κ t ≤ roomOf t) :
    AppV κ s B (varB (2 * gr R n k + 1) ++ packB (gS R n k w) (gr R n k * w)) (nI (k + 8 * gr R n k)) (fun x => RwI x r R n) (fun post kb nb x => wp_Snk_putGroups post s r (nI n) (nI k) (nI w) kb nb x) := by
  have hgr := gr_le (R := R) (n := n) n k (by omega) hk
  obtain ⟨κ1, m1, f1⟩ := k_varint (κ := κ) (s := s) (B := B) (v := lN (2 * gr R n k + 1)) (Pre := fun x => RwI x r R n) hs (RwI.k hr hs) hκ
  rw [uL_lN (by omega)] at f1
  obtain ⟨κ2, m2, f2⟩ := k_groupsL (B := B ++ varB (2 * gr R n k + 1)) (R := R) (g := gr R n k) hs hr hn hk hw hgr.1 (8 * gr R n k) 0 (8 * gr R n k + 1) κ1 (by omega) (by omega) (fun t ht => (m1 t ht).2)
  refine ⟨κ2, m1.trans m2, fun x post kb nb hK hC h hR hkb hnb p => ?_⟩
  unfold wp_Snk_putGroups
  rw [show (8 : Int32) = nI 8 from rfl, nI_add]
  refine nm_e ?_
  refine lp_Snk_putGroups_6 (fun o l1 l2 l3 l4 l5 kb' nb' y => s = o ∧ r = l1 ∧ nI n = l2 ∧ nI k = l3 ∧ nI w = l4 ∧ kb = kb' ∧ nb = nb' ∧ x = y ∧ ∃ g, nI (k + 8 * g) = l5 ∧ 1 ≤ g ∧ g ≤ gr R n k ∧ gr R n k + 1 = g + gr R n (k + 8 * (g - 1))) (fun _ _ _ _ _ l5 _ _ _ => n + 9 - l5.toNatClampNeg) ?_ _ _ _ _ _ _ _ _ _ ⟨rfl, rfl, rfl, rfl, rfl, rfl, rfl, rfl, 1, rfl, Nat.le_refl _, hgr.2, by show gr R n k + 1 = 1 + gr R n k; omega⟩
  rintro Q o l1 l2 l3 l4 l5 kb' nb' y ⟨rfl, rfl, rfl, rfl, rfl, rfl, rfl, rfl, g, rfl, g1, g2, g3⟩ ih
  rw [gr_eq (k := k + 8 * (g - 1)), show k + 8 * (g - 1) + 8 = k + 8 * g by omega] at g3
  have put : g = gr R n k → j_Snk_putGroups_32 post s r (nI n) (nI k) (nI w) (nI (k + 8 * g)) kb nb x := by
    intro eg
    rw [eg]
    unfold j_Snk_putGroups_32
    have ev : (((nI (k + 8 * gr R n k) - nI k) / 8 : Int32).toInt64 * 2) + 1 = lN (2 * gr R n k + 1) := by
      rw [nI_sub (by omega), show (8 : Int32) = nI 8 from rfl, pk_div (by omega) (by decide) (by decide), show (k + 8 * gr R n k - k) / 8 = gr R n k by omega, nI_l (by omega), show (2 : Int64) = lN 2 from rfl, lN_mul, lN_1, Nat.mul_comm]
    rw [ev]
    refine bseq m1 m2 hkb hnb (fun k1 n1 k2 n2 b1 b2 b3 b4 => f1 x _ k1 n1 hK hC h hR b1 b2 (fun y y1 y2 y3 y4 => ⟨8 * gr R n k + 1, f2 y post k2 n2 y1 y2 (by rw [Nat.zero_mul]; exact y4.bit) (RwI.k hr hs x y hK y3 hR) b3 b4 (fun z z1 z2 z3 z4 => p z z1 z2 (FK.trans hs y3 z3) ?_)⟩))
    rw [← List.append_assoc]
    exact z4.snk (by rw [Nat.mul_assoc])
  unfold j_Snk_putGroups_6
  by_cases c9 : k + 8 * g < n
  · refine br_f (by (first | omega | (simp (disch := omega) only [Int32.le_iff_toInt_le, Int32.lt_iff_toInt_lt, z_eq, z_in, nI_toInt, z_cl, z_m1, z_sg, z_255, Int32.reduceToInt] <;> omega) | (simp only [Int32.le_iff_toInt_le, Int32.lt_iff_toInt_lt, z_eq, z_in, z_add, z_sub, z_mul, z_neg, z_nI, z_cl, z_sg, z_255, z_lit, Int32.reduceToInt] <;> omega))) (c_sameFrom (most := 8) hR c9 (by decide) (by decide) ?_)
    by_cases c10 : 8 ≤ sm R n (k + 8 * g)
    · rw [if_neg (by omega)] at g3
      rw [show min 8 (sm R n (k + 8 * g)) = 8 by omega]
      exact br_t (by decide) (put (by omega))
    · rw [if_pos ⟨c9, by omega⟩] at g3
      rw [show min 8 (sm R n (k + 8 * g)) = sm R n (k + 8 * g) by omega]
      refine br_f (by (first | omega | (simp (disch := omega) only [Int32.le_iff_toInt_le, Int32.lt_iff_toInt_lt, z_eq, z_in, nI_toInt, z_cl, z_m1, z_sg, z_255, Int32.reduceToInt] <;> omega) | (simp only [Int32.le_iff_toInt_le, Int32.lt_iff_toInt_lt, z_eq, z_in, z_add, z_sub, z_mul, z_neg, z_nI, z_cl, z_sg, z_255, z_lit, Int32.reduceToInt] <;> omega))) ?_
      rw [show (8 : Int32) = nI 8 from rfl, nI_add]
      have hg8 := gr_le (R := R) (n := n) n (k + 8 * g) (by omega) c9
      refine ih _ _ _ _ _ _ _ _ _ ⟨rfl, rfl, rfl, rfl, rfl, rfl, rfl, rfl, g + 1, by rw [Nat.mul_succ, ← Nat.add_assoc], by omega, by omega, ?_⟩ ?_
      · rw [Nat.add_sub_cancel]; omega
      · rw [nI_clamp (by omega), nI_clamp (by omega)]; omega
  · rw [if_neg (by omega)] at g3
    exact br_t (by (first | omega | (simp (disch := omega) only [Int32.le_iff_toInt_le, Int32.lt_iff_toInt_lt, z_eq, z_in, nI_toInt, z_cl, z_m1, z_sg, z_255, Int32.reduceToInt] <;> omega) | (simp only [Int32.le_iff_toInt_le, Int32.lt_iff_toInt_lt, z_eq, z_in, z_add, z_sub, z_mul, z_neg, z_nI, z_cl, z_sg, z_255, z_lit, Int32.reduceToInt] <;> omega))) (put (by omega))
theorem k_runsL {s r n w : Nat} {R : Nat → Int32} (hs : SnkId s) (hr : stRow r) (hn : n ≤ 10000) (hw : w ≤ 32) : ∀ d k i f κ B, n ≤ k + d → i ≤ k → d < f → k ≤ n + 8 → (∀ t, SnkId t → κ t ≤ roomOf t) → App κ s B (runF R n w d k) (fun x => RwI x r R n) (fun post kb nb x => wl_Snk_putRuns_6 post f s r (nI n) (nI w) (nI k) (nI i) kb nb x) := by
  intro d
  induction d with
  | zero =>
    intro k i f κ B h1 h2 h3 h4 hκ
    obtain ⟨f, rfl⟩ : ∃ e, f = e + 1 := ⟨f - 1, by omega⟩
    refine (App.nil hκ).cg (fun post kb nb x _ _ _ z => ?_)
    show j_Snk_putRuns_6 post _ s r _ _ _ _ kb nb x
    unfold j_Snk_putRuns_6
    exact ⟨fun _ => z, fun _ => br_t (by (first | omega | (simp (disch := omega) only [Int32.le_iff_toInt_le, Int32.lt_iff_toInt_lt, z_eq, z_in, nI_toInt, z_cl, z_m1, z_sg, z_255, Int32.reduceToInt] <;> omega) | (simp only [Int32.le_iff_toInt_le, Int32.lt_iff_toInt_lt, z_eq, z_in, z_add, z_sub, z_mul, z_neg, z_nI, z_cl, z_sg, z_255, z_lit, Int32.reduceToInt] <;> omega))) z⟩
  | succ d ih =>
    intro k i f κ B h1 h2 h3 h4 hκ
    obtain ⟨f, rfl⟩ : ∃ e, f = e + 1 := ⟨f - 1, by omega⟩
    simp only [runF]
    by_cases c : n ≤ k
    · rw [if_pos c]
      refine (App.nil hκ).cg (fun post kb nb x _ _ _ z => ?_)
      show j_Snk_putRuns_6 post _ s r _ _ _ _ kb nb x
      unfold j_Snk_putRuns_6
      exact ⟨fun _ => z, fun _ => br_t (by (first | omega | (simp (disch := omega) only [Int32.le_iff_toInt_le, Int32.lt_iff_toInt_lt, z_eq, z_in, nI_toInt, z_cl, z_m1, z_sg, z_255, Int32.reduceToInt] <;> omega) | (simp only [Int32.le_iff_toInt_le, Int32.lt_iff_toInt_lt, z_eq, z_in, z_add, z_sub, z_mul, z_neg, z_nI, z_cl, z_sg, z_255, z_lit, Int32.reduceToInt] <;> omega))) z⟩
    · rw [if_neg c]
      have hsp := sm_pos (R := R) (show k < n by omega)
      have hsl := sm_le (R := R) (show k ≤ n by omega)
      by_cases c8 : 8 ≤ sm R n k
      · rw [if_pos c8]
        obtain ⟨κ1, m1, f1⟩ := k_varint (κ := κ) (s := s) (B := B) (v := lN (2 * sm R n k)) (Pre := fun x => RwI x r R n) hs (RwI.k hr hs) hκ
        rw [uL_lN (by omega)] at f1
        obtain ⟨κ2, m2, f2⟩ := k_fixed (κ := κ1) (s := s) (n := (w + 7) / 8) (B := B ++ varB (2 * sm R n k)) (v := (R k).toInt64) (Pre := fun x => RwI x r R n) hs (RwI.k hr hs) (fun t ht => (m1 t ht).2) (by omega)
        rw [fix_sx (by omega)] at f2
        obtain ⟨κ3, m3, f3⟩ := ih (k + sm R n k) (i + 1) f κ2 (B ++ varB (2 * sm R n k) ++ fixB (uI (R k)) ((w + 7) / 8)) (by omega) (by omega) (by omega) (by omega) (fun t ht => (m2 t ht).2)
        refine ⟨κ3, m1.trans (m2.trans m3), fun x post kb nb hK hC h hR hkb hnb p => ?_⟩
        show j_Snk_putRuns_6 post _ s r _ _ _ _ kb nb x
        unfold j_Snk_putRuns_6 j_Snk_putRuns_83
        refine br_f (by (first | omega | (simp (disch := omega) only [Int32.le_iff_toInt_le, Int32.lt_iff_toInt_lt, z_eq, z_in, nI_toInt, z_cl, z_m1, z_sg, z_255, Int32.reduceToInt] <;> omega) | (simp only [Int32.le_iff_toInt_le, Int32.lt_iff_toInt_lt, z_eq, z_in, z_add, z_sub, z_mul, z_neg, z_nI, z_cl, z_sg, z_255, z_lit, Int32.reduceToInt] <;> omega))) (br_f (by (first | omega | (simp (disch := omega) only [Int32.le_iff_toInt_le, Int32.lt_iff_toInt_lt, z_eq, z_in, nI_toInt, z_cl, z_m1, z_sg, z_255, Int32.reduceToInt] <;> omega) | (simp only [Int32.le_iff_toInt_le, Int32.lt_iff_toInt_lt, z_eq, z_in, z_add, z_sub, z_mul, z_neg, z_nI, z_cl, z_sg, z_255, z_lit, Int32.reduceToInt] <;> omega))) (c_sameFrom (most := n) hR (by omega) (by omega) (by omega) ?_))
        rw [Nat.min_eq_right (by omega), nI_1]
        have ev : (2 : Int64) * (nI (sm R n k)).toInt64 = lN (2 * sm R n k) := by rw [nI_l (by omega), show (2 : Int64) = lN 2 from rfl, lN_mul]
        have ew : (nI w + 7) / 8 = nI ((w + 7) / 8) := by rw [show (7 : Int32) = nI 7 from rfl, nI_add, show (8 : Int32) = nI 8 from rfl, pk_div (by omega) (by decide) (by decide)]
        rw [ev, ew]
        refine br_f (by (first | omega | (simp (disch := omega) only [Int32.le_iff_toInt_le, Int32.lt_iff_toInt_lt, z_eq, z_in, nI_toInt, z_cl, z_m1, z_sg, z_255, Int32.reduceToInt] <;> omega) | (simp only [Int32.le_iff_toInt_le, Int32.lt_iff_toInt_lt, z_eq, z_in, z_add, z_sub, z_mul, z_neg, z_nI, z_cl, z_sg, z_255, z_lit, Int32.reduceToInt] <;> omega))) (bseq m1 (m2.trans m3) hkb hnb (fun k1 n1 k2 n2 b1 b2 b3 b4 => f1 x _ k1 n1 hK hC h hR b1 b2 (fun y y1 y2 y3 y4 => ?_)))
        have rY := RwI.k hr hs x y hK y3 hR
        refine ⟨vp_in_nI (by have := rY.1; omega) rY.2.1, ?_⟩
        rw [rA_nI (by omega), rY.2.2 k (by omega)]
        refine bseq m2 m3 b3 b4 (fun k3 n3 k4 n4 c1 c2 c3 c4 => f2 y _ k3 n3 y1 y2 y4 rY c1 c2 (fun z z1 z2 z3 z4 => nm_r (e' := nI (k + sm R n k)) (nI_add _ _) (f3 z post k4 n4 z1 z2 z4 (RwI.k hr hs y z y1 z3 rY) c3 c4 (fun q q1 q2 q3 q4 => p q q1 q2 (FK.trans hs y3 (FK.trans hs z3 q3)) ?_))))
        rw [List.append_assoc, List.append_assoc] at q4
        exact q4
      · rw [if_neg c8, ← List.append_assoc]
        have hgr := gr_le (R := R) (n := n) n k (by omega) (by omega)
        obtain ⟨κ1, m1, f1⟩ := k_groups (κ := κ) (R := R) (B := B) hs hr hn (by omega : k < n) hw hκ
        obtain ⟨κ2, m2, f2⟩ := ih (k + 8 * gr R n k) (i + 1) f κ1 (B ++ (varB (2 * gr R n k + 1) ++ packB (gS R n k w) (gr R n k * w))) (by omega) (by omega) (by omega) (by omega) (fun t ht => (m1 t ht).2)
        refine ⟨κ2, m1.trans m2, fun x post kb nb hK hC h hR hkb hnb p => ?_⟩
        show j_Snk_putRuns_6 post _ s r _ _ _ _ kb nb x
        unfold j_Snk_putRuns_6 j_Snk_putRuns_83
        refine br_f (by (first | omega | (simp (disch := omega) only [Int32.le_iff_toInt_le, Int32.lt_iff_toInt_lt, z_eq, z_in, nI_toInt, z_cl, z_m1, z_sg, z_255, Int32.reduceToInt] <;> omega) | (simp only [Int32.le_iff_toInt_le, Int32.lt_iff_toInt_lt, z_eq, z_in, z_add, z_sub, z_mul, z_neg, z_nI, z_cl, z_sg, z_255, z_lit, Int32.reduceToInt] <;> omega))) (br_f (by (first | omega | (simp (disch := omega) only [Int32.le_iff_toInt_le, Int32.lt_iff_toInt_lt, z_eq, z_in, nI_toInt, z_cl, z_m1, z_sg, z_255, Int32.reduceToInt] <;> omega) | (simp only [Int32.le_iff_toInt_le, Int32.lt_iff_toInt_lt, z_eq, z_in, z_add, z_sub, z_mul, z_neg, z_nI, z_cl, z_sg, z_255, z_lit, Int32.reduceToInt] <;> omega))) (c_sameFrom (most := n) hR (by omega) (by omega) (by omega) ?_))
        rw [Nat.min_eq_right (by omega), nI_1]
        refine br_t (by (first | omega | (simp (disch := omega) only [Int32.le_iff_toInt_le, Int32.lt_iff_toInt_lt, z_eq, z_in, nI_toInt, z_cl, z_m1, z_sg, z_255, Int32.reduceToInt] <;> omega) | (simp only [Int32.le_iff_toInt_le, Int32.lt_iff_toInt_lt, z_eq, z_in, z_add, z_sub, z_mul, z_neg, z_nI, z_cl, z_sg, z_255, z_lit, Int32.reduceToInt] <;> omega))) (bseq m1 m2 hkb hnb (fun k1 n1 k2 n2 b1 b2 b3 b4 => f1 x _ k1 n1 hK hC h hR b1 b2 (fun y y1 y2 y3 y4 => f2 y post k2 n2 y1 y2 y4 (RwI.k hr hs x y hK y3 hR) b3 b4 (fun z z1 z2 z3 z4 => p z z1 z2 (FK.trans hs y3 z3) ?_))))
        rw [← List.append_assoc]
        exact z4
theorem k_runs {κ : Nat → Nat} {s r n w : Nat} {R : Nat → Int32} {B : List Nat} (hs : SnkId s) (hr : stRow r) (hn : n ≤ 10000) (hw : w ≤ 32) (hκ : ∀ t, SnkId t → κ t ≤ roomOf t) : App κ s B (runB R n w) (fun x => RwI x r R n) (fun post kb nb x => wp_Snk_putRuns post s r (nI n) (nI w) kb nb x) :=
  (k_runsL hs hr hn hw n 0 0 (n + 1) κ B (by omega) (by omega) (by omega) (by omega) hκ).cg (fun _ _ _ _ _ _ _ z => ⟨n + 1, z⟩)
