/-! RUNS, and the model's -/
def uI (v : Int32) : Nat := v.toBitVec.toNat
theorem uI_lt (v : Int32) : uI v < 2 ^ 32 := v.toBitVec.isLt
theorem nI_uI (v : Int32) : nI (uI v) = v := Int32.toBitVec_inj.mp (by unfold uI; show BitVec.ofNat 32 _ = _; simp)
theorem bt_t (v : Int32) (i : Nat) : bt v i = (uI v).testBit i := rfl
theorem uI_nI {n : Nat} (h : n < 2 ^ 32) : uI (nI n) = n := pk_tn h
theorem sshr_by {v : Int32} {i : Nat} (hi : i ≤ 24) : (v >>> (nI i &&& 31)) &&& 255 = nI (uI v / 2 ^ i % 256) := by
  have hm : uI v / 2 ^ i % 256 < 2 ^ 32 := Nat.lt_of_lt_of_le (Nat.mod_lt _ (by decide)) (by decide)
  refine b_ext (fun j hj => ?_)
  rw [b_and, b_255, bt_t (nI _), uI_nI hm, show (256 : Nat) = 2 ^ 8 from rfl, Nat.testBit_mod_two_pow, Nat.testBit_div_two_pow]
  by_cases c : j < 8
  · rw [decide_eq_true c, Bool.and_true, Bool.true_and, b_sshr i (by omega) v hj, if_pos (by omega), bt_t, Nat.add_comm]
  · rw [decide_eq_false c, Bool.and_false, Bool.false_and]
theorem ushr_1 {v : Int32} {i : Nat} (hi : i < 32) : (v.toUInt32 >>> ((nI i).toUInt32 &&& Int32.toUInt32 31)).toInt32 &&& 1 = nI (nbit (uI v) i) := by
  have hm : nbit (uI v) i < 2 ^ 32 := Nat.lt_of_le_of_lt (nbit_le _ _) (by decide)
  have b1 : ∀ j, bt 1 j = decide (j < 1) := fun j => by
    rw [show (1 : Int32) = nI (2 ^ 1 - 1) from rfl, bt_t, uI_nI (by decide), Nat.testBit_two_pow_sub_one]
  refine b_ext (fun j hj => ?_)
  rw [b_and, b1, bt_t (nI _), uI_nI hm]
  unfold nbit
  rw [show uI v / 2 ^ i % 2 = uI v / 2 ^ i % 2 ^ 1 from rfl, Nat.testBit_mod_two_pow, Nat.testBit_div_two_pow, b_ushr i hi, bt_t, Nat.add_comm j i]
  exact Bool.and_comm _ _
/-- how many are the same from k on -/
def sm (R : Nat → Int32) (n k : Nat) : Nat := endP (fun v => decide (v = R k)) R n k - k
theorem sm_le {R : Nat → Int32} {n k : Nat} (h : k ≤ n) : k + sm R n k ≤ n := by
  unfold sm
  have := endP_le (p := fun v => decide (v = R k)) (T := R) h
  have := endP_le' (fun v => decide (v = R k)) R n k
  omega
theorem sm_pos {R : Nat → Int32} {n k : Nat} (h : k < n) : 1 ≤ sm R n k := by
  unfold sm
  rw [endP_go h (decide_eq_true rfl)]
  have := endP_le' (fun v => decide (v = R k)) R n (k + 1)
  omega
def grF (R : Nat → Int32) (n : Nat) : Nat → Nat → Nat
  | 0, _ => 1
  | d + 1, k => if k + 8 < n ∧ sm R n (k + 8) < 8 then 1 + grF R n d (k + 8) else 1
/-- how many groups of eight from k on -/
def gr (R : Nat → Int32) (n k : Nat) : Nat := grF R n n k
theorem grF_fuel {R : Nat → Int32} {n : Nat} : ∀ d e k, n ≤ k + d → n ≤ k + e → grF R n d k = grF R n e k := by
  intro d
  induction d with
  | zero =>
    intro e k h1 h2
    cases e with
    | zero => rfl
    | succ e => show 1 = if _ then _ else _; rw [if_neg (by omega)]
  | succ d ih =>
    intro e k h1 h2
    cases e with
    | zero => show (if _ then _ else _) = 1; rw [if_neg (by omega)]
    | succ e =>
      simp only [grF]
      split
      · rw [ih e (k + 8) (by omega) (by omega)]
      · rfl
theorem gr_eq {R : Nat → Int32} {n k : Nat} : gr R n k = if k + 8 < n ∧ sm R n (k + 8) < 8 then 1 + gr R n (k + 8) else 1 := by
  unfold gr
  cases n with
  | zero => rfl
  | succ n =>
    rw [show grF R (n + 1) (n + 1) k = if k + 8 < n + 1 ∧ sm R (n + 1) (k + 8) < 8 then 1 + grF R (n + 1) n (k + 8) else 1 from rfl]
    split
    · rw [grF_fuel n (n + 1) (k + 8) (by omega) (by omega)]
    · rfl
theorem gr_le {R : Nat → Int32} {n : Nat} : ∀ d k, n ≤ k + d → k < n → k + 8 * gr R n k < n + 8 ∧ 1 ≤ gr R n k := by
  intro d
  induction d with
  | zero => intro k h1 h2; omega
  | succ d ih =>
    intro k h1 h2
    rw [gr_eq]
    split
    · rename_i c
      have := ih (k + 8) (by omega) c.1
      omega
    · omega
def gS (R : Nat → Int32) (n k w : Nat) : Nat → Nat := fun b => nbit (if k + b / w < n then uI (R (k + b / w)) else 0) (b % w)
theorem gS_le (R : Nat → Int32) (n k w b : Nat) : gS R n k w b ≤ 1 := nbit_le _ _
def runF (R : Nat → Int32) (n w : Nat) : Nat → Nat → List Nat
  | 0, _ => []
  | d + 1, k => if n ≤ k then [] else if 8 ≤ sm R n k then varB (2 * sm R n k) ++ (fixB (uI (R k)) ((w + 7) / 8) ++ runF R n w d (k + sm R n k)) else varB (2 * gr R n k + 1) ++ (packB (gS R n k w) (gr R n k * w) ++ runF R n w d (k + 8 * gr R n k))
def runB (R : Nat → Int32) (n w : Nat) : List Nat := runF R n w n 0
theorem fixF_snoc {v : Nat} : ∀ d k, fixF v (d + 1) k = fixF v d k ++ [v / 2 ^ (8 * (k + d)) % 256] := by
  intro d
  induction d with
  | zero => intro k; rfl
  | succ d ih =>
    intro k
    show _ :: fixF v (d + 1) (k + 1) = _ :: (fixF v d (k + 1) ++ _)
    rw [ih (k + 1), show k + 1 + d = k + (d + 1) by omega]
/-- how long RUNS are -/
theorem runF_len {R : Nat → Int32} {n w : Nat} (hw : w ≤ 32) : ∀ d k, (runF R n w d k).length ≤ (10 + 4 + w) * d + w * (n - k + 8) := by
  intro d
  induction d with
  | zero => intro k; exact Nat.zero_le _
  | succ d ih =>
    intro k
    simp only [runF]
    split
    · exact Nat.zero_le _
    · rename_i c
      have hv1 := varB_len (2 * sm R n k)
      have hv2 := varB_len (2 * gr R n k + 1)
      have e0 : (10 + 4 + w) * (d + 1) = (10 + 4 + w) * d + (10 + 4 + w) := Nat.mul_succ _ _
      split
      · have := ih (k + sm R n k)
        rw [List.length_append, List.length_append, show fixB (uI (R k)) ((w + 7) / 8) = fixF (uI (R k)) ((w + 7) / 8) 0 from rfl, fixF_len]
        have m1 : w * (n - (k + sm R n k) + 8) ≤ w * (n - k + 8) := Nat.mul_le_mul_left _ (by omega)
        omega
      · have := ih (k + 8 * gr R n k)
        rw [List.length_append, List.length_append, packB_len]
        have g := (gr_le (R := R) (n := n) n k (by omega) (by omega))
        have m1 : gr R n k * w + w * (n - (k + 8 * gr R n k) + 8) ≤ w * (n - k + 8) + w := by
          rw [Nat.mul_comm (gr R n k) w, ← Nat.mul_add, show w * (n - k + 8) + w = w * (n - k + 8 + 1) from (Nat.mul_succ _ _).symm]
          exact Nat.mul_le_mul_left _ (by omega)
        omega
def RwI (x : St) (r : Nat) (R : Nat → Int32) (n : Nat) : Prop := n ≤ fN x r ∧ fN x r < 2 ^ 31 ∧ ∀ i, i < n → fA x r i = R i
theorem RwI.sh {x y : St} {r n : Nat} {R : Nat → Int32} (h : RwI x r R n) (hr : r ≠ 39) (f : FrSh x y) : RwI y r R n := by
  unfold RwI
  rw [show fN y r = fN x r by show y.2.2.2.2.2 r = _; rw [f.2.2.2.2.2], show fA y r = fA x r from f.2.2.2.1 r hr]
  exact h
theorem s_alike {post : Int32 → St → Prop} {x : St} {r n k : Nat} {R : Nat → Int32} (h : RwI x r R n) (hk : k < n) (p : post (nI (sm R n k)) x) : wp_Mod_alike post r (nI k) (nI n) x := by
  obtain ⟨h1, h2, h3⟩ := h
  refine lp_Mod_alike_2 (fun l0 l1 l2 l3 y => r = l0 ∧ nI k = l1 ∧ nI n = l2 ∧ x = y ∧ ∃ e, nI e = l3 ∧ k ≤ e ∧ e ≤ n ∧ endP (fun v => decide (v = R k)) R n e = endP (fun v => decide (v = R k)) R n k) (fun _ _ _ l3 _ => n - l3.toNatClampNeg) ?_ _ _ _ _ _ ⟨rfl, rfl, rfl, rfl, k, rfl, Nat.le_refl _, by omega, rfl⟩
  rintro Q l0 l1 l2 l3 y ⟨rfl, rfl, rfl, rfl, e, rfl, e1, e2, e3⟩ ih
  have out : endP (fun v => decide (v = R k)) R n e = e → j_Mod_alike_22 post r (nI k) (nI n) (nI e) x := by
    intro z
    unfold j_Mod_alike_22
    rw [nI_sub e1]
    unfold sm at p
    rw [← e3, z] at p
    exact p
  unfold j_Mod_alike_2
  by_cases c : e < n
  · refine br_f (by (first | omega | (simp (disch := omega) only [Int32.le_iff_toInt_le, Int32.lt_iff_toInt_lt, z_eq, z_in, nI_toInt, z_cl, z_m1, z_sg, z_255, Int32.reduceToInt] <;> omega) | (simp only [Int32.le_iff_toInt_le, Int32.lt_iff_toInt_lt, z_eq, z_in, z_add, z_sub, z_mul, z_neg, z_nI, z_cl, z_sg, z_255, z_lit, Int32.reduceToInt] <;> omega))) ⟨vp_in_nI (by omega) h2, vp_in_nI (by omega) h2, ?_⟩
    rw [rA_nI (by omega), rA_nI (by omega), h3 e c, h3 k hk]
    by_cases d : R e = R k
    · refine bn_t d ?_
      rw [nI_1]
      refine ih _ _ _ _ _ ⟨rfl, rfl, rfl, rfl, e + 1, rfl, by omega, by omega, ?_⟩ ?_
      · rw [← e3, endP_go (k := e) c (decide_eq_true d)]
      · rw [nI_clamp (by omega), nI_clamp (by omega)]; omega
    · exact bn_f d (out (endP_no (fun z => d (of_decide_eq_true z.2))))
  · exact br_t (by (first | omega | (simp (disch := omega) only [Int32.le_iff_toInt_le, Int32.lt_iff_toInt_lt, z_eq, z_in, nI_toInt, z_cl, z_m1, z_sg, z_255, Int32.reduceToInt] <;> omega) | (simp only [Int32.le_iff_toInt_le, Int32.lt_iff_toInt_lt, z_eq, z_in, z_add, z_sub, z_mul, z_neg, z_nI, z_cl, z_sg, z_255, z_lit, Int32.reduceToInt] <;> omega))) (out (endP_no (fun z => c z.1)))
theorem s_runs {post : St → Prop} {x : St} {r n w : Nat} {R : Nat → Int32} {B : List Nat} (hr : r ≠ 39) (h : RwI x r R n) (hn : n ≤ 10000) (hw : w ≤ 32) (hS : Sh x B) (hB : B.length ≤ 2 ^ 28) (p : ∀ y, FrSh x y → Sh y (B ++ runB R n w) → post y) : wp_Mod_writeRuns post r (nI n) (nI w) x := by
  have big : ∀ d k, d ≤ n → (runF R n w d k).length ≤ 2 ^ 20 := fun d k hd => by
    have := runF_len (R := R) (n := n) (w := w) hw d k
    have m1 : (10 + 4 + w) * d ≤ 46 * 10000 := Nat.mul_le_mul (by omega) (by omega)
    have m2 : w * (n - k + 8) ≤ 32 * 10008 := Nat.mul_le_mul hw (by omega)
    omega
  refine lp_Mod_writeRuns_3 (fun l1 l2 l3 l4 y => r = l1 ∧ nI n = l2 ∧ nI w = l3 ∧ ∃ k d B2, nI k = l4 ∧ k ≤ n + 8 ∧ d ≤ n ∧ n ≤ k + d ∧ FrSh x y ∧ Sh y B2 ∧ B2.length ≤ 2 ^ 28 + 2 ^ 20 ∧ B2 ++ runF R n w d k = B ++ runB R n w) (fun _ _ _ l4 _ => n + 9 - l4.toNatClampNeg) ?_ _ _ _ _ _ ⟨rfl, rfl, rfl, 0, n, B, rfl, by omega, Nat.le_refl _, by omega, Fg.refl x, hS, by omega, rfl⟩
  rintro Q l1 l2 l3 l4 y ⟨rfl, rfl, rfl, k, d, B2, rfl, k1, d1, d2, f1, f2, f3, f4⟩ ih
  have rowY := h.sh hr f1
  unfold j_Mod_writeRuns_3
  by_cases c : k < n
  · obtain ⟨d, rfl⟩ : ∃ e, d = e + 1 := ⟨d - 1, by omega⟩
    have tot : (B ++ runB R n w).length ≤ 2 ^ 28 + 2 ^ 20 := by rw [List.length_append]; have := big n 0 (Nat.le_refl _); unfold runB; omega
    simp only [runF] at f4
    rw [if_neg (by omega)] at f4
    refine br_f (by (first | omega | (simp (disch := omega) only [Int32.le_iff_toInt_le, Int32.lt_iff_toInt_lt, z_eq, z_in, nI_toInt, z_cl, z_m1, z_sg, z_255, Int32.reduceToInt] <;> omega) | (simp only [Int32.le_iff_toInt_le, Int32.lt_iff_toInt_lt, z_eq, z_in, z_add, z_sub, z_mul, z_neg, z_nI, z_cl, z_sg, z_255, z_lit, Int32.reduceToInt] <;> omega))) (s_alike rowY c ?_)
    have hsm := sm_le (R := R) (show k ≤ n by omega)
    have hsp := sm_pos (R := R) c
    by_cases c8 : 8 ≤ sm R n k
    · rw [if_pos c8] at f4
      refine br_f (by (first | omega | (simp (disch := omega) only [Int32.le_iff_toInt_le, Int32.lt_iff_toInt_lt, z_eq, z_in, nI_toInt, z_cl, z_m1, z_sg, z_255, Int32.reduceToInt] <;> omega) | (simp only [Int32.le_iff_toInt_le, Int32.lt_iff_toInt_lt, z_eq, z_in, z_add, z_sub, z_mul, z_neg, z_nI, z_cl, z_sg, z_255, z_lit, Int32.reduceToInt] <;> omega))) ?_
      have ev : uL ((2 : Int64) * (nI (sm R n k)).toInt64) = 2 * sm R n k := by rw [nI_l (by omega), show (2 : Int64) = lN 2 from rfl, lN_mul, uL_lN (by omega)]
      refine s_varint f2 (by omega) (fun Y g1 g2 => ?_)
      rw [ev] at g2
      have rowZ := rowY.sh hr g1
      generalize hu : uI (R k) = u at *
      refine lp_Mod_writeRuns_39 (fun l1 l2 l3 l4 l5 l6 z => r = l1 ∧ nI n = l2 ∧ nI w = l3 ∧ nI k = l4 ∧ nI (sm R n k) = l5 ∧ ∃ j, nI (8 * j) = l6 ∧ j ≤ (w + 7) / 8 ∧ FrSh Y z ∧ Sh z (B2 ++ varB (2 * sm R n k) ++ fixF u j 0)) (fun _ _ _ _ _ l6 _ => 100 - l6.toNatClampNeg) ?_ _ _ _ _ _ _ _ ⟨rfl, rfl, rfl, rfl, rfl, 0, rfl, Nat.zero_le _, Fg.refl Y, by show Sh Y (_ ++ []); rw [List.append_nil]; exact g2⟩
      rintro Q2 l1 l2 l3 l4 l5 l6 z ⟨rfl, rfl, rfl, rfl, rfl, j, rfl, j1, z1, z2⟩ ih2
      have rowW := rowZ.sh hr z1
      have hlen : (B2 ++ varB (2 * sm R n k) ++ fixF u j 0).length ≤ 2 ^ 28 + 2 ^ 20 + 20 := by
        rw [List.length_append, List.length_append, fixF_len]
        have := varB_len (2 * sm R n k)
        omega
      unfold j_Mod_writeRuns_39
      by_cases cj : 8 * j < w
      · refine br_f (by (first | omega | (simp (disch := omega) only [Int32.le_iff_toInt_le, Int32.lt_iff_toInt_lt, z_eq, z_in, nI_toInt, z_cl, z_m1, z_sg, z_255, Int32.reduceToInt] <;> omega) | (simp only [Int32.le_iff_toInt_le, Int32.lt_iff_toInt_lt, z_eq, z_in, z_add, z_sub, z_mul, z_neg, z_nI, z_cl, z_sg, z_255, z_lit, Int32.reduceToInt] <;> omega))) ⟨vp_in_nI (by have := rowW.1; omega) rowW.2.1, s_put (b := u / 2 ^ (8 * j) % 256) z2 (by omega) (Nat.mod_lt _ (by decide)) ?_ (fun W w1 w2 => ?_)⟩
        · rw [rA_nI (by omega), rowW.2.2 k c, sshr_by (by omega), hu]
        · rw [show (8 : Int32) = nI 8 from rfl, nI_add]
          refine ih2 _ _ _ _ _ _ _ ⟨rfl, rfl, rfl, rfl, rfl, j + 1, by rw [Nat.mul_succ], by omega, z1.trans w1, ?_⟩ ?_
          · rw [fixF_snoc, Nat.zero_add, ← List.append_assoc]; exact w2
          · rw [nI_clamp (by omega), nI_clamp (by omega)]; omega
      · have ej : j = (w + 7) / 8 := by omega
        refine br_t (by (first | omega | (simp (disch := omega) only [Int32.le_iff_toInt_le, Int32.lt_iff_toInt_lt, z_eq, z_in, nI_toInt, z_cl, z_m1, z_sg, z_255, Int32.reduceToInt] <;> omega) | (simp only [Int32.le_iff_toInt_le, Int32.lt_iff_toInt_lt, z_eq, z_in, z_add, z_sub, z_mul, z_neg, z_nI, z_cl, z_sg, z_255, z_lit, Int32.reduceToInt] <;> omega))) (nm_r (e' := nI (k + sm R n k)) (nI_add _ _) ?_)
        rw [ej] at z2
        refine ih _ _ _ _ _ ⟨rfl, rfl, rfl, k + sm R n k, d, B2 ++ varB (2 * sm R n k) ++ fixB u ((w + 7) / 8), rfl, by omega, by omega, by omega, (f1.trans g1).trans z1, z2, ?_, ?_⟩ ?_
        · have e := congrArg List.length f4
          simp only [List.length_append] at e tot ⊢
          omega
        · rw [← f4, List.append_assoc, List.append_assoc]
        · rw [nI_clamp (by omega), nI_clamp (by omega)]; omega
    · rw [if_neg c8] at f4
      refine br_t (by (first | omega | (simp (disch := omega) only [Int32.le_iff_toInt_le, Int32.lt_iff_toInt_lt, z_eq, z_in, nI_toInt, z_cl, z_m1, z_sg, z_255, Int32.reduceToInt] <;> omega) | (simp only [Int32.le_iff_toInt_le, Int32.lt_iff_toInt_lt, z_eq, z_in, z_add, z_sub, z_mul, z_neg, z_nI, z_cl, z_sg, z_255, z_lit, Int32.reduceToInt] <;> omega))) ?_
      have hgr := gr_le (R := R) (n := n) n k (by omega) c
      -- how many groups
      refine lp_Mod_writeRuns_75 (fun l1 l2 l3 l4 l5 l6 z => r = l1 ∧ nI n = l2 ∧ nI w = l3 ∧ nI k = l4 ∧ y = z ∧ ∃ g, nI g = l6 ∧ 1 ≤ g ∧ g ≤ gr R n k ∧ gr R n k + 1 = g + gr R n (k + 8 * (g - 1))) (fun _ _ _ _ _ l6 _ => n + 9 - l6.toNatClampNeg) ?_ _ _ _ _ _ _ _ ⟨rfl, rfl, rfl, rfl, rfl, 1, rfl, Nat.le_refl _, hgr.2, by show gr R n k + 1 = 1 + gr R n k; omega⟩
      rintro Q2 l1 l2 l3 l4 l5 l6 z ⟨rfl, rfl, rfl, rfl, rfl, g, rfl, g1, g2, g3⟩ ih2
      have e8 : nI k + 8 * nI g = nI (k + 8 * g) := by rw [show (8 : Int32) = nI 8 from rfl, nI_mul, nI_add]
      rw [gr_eq (k := k + 8 * (g - 1)), show k + 8 * (g - 1) + 8 = k + 8 * g by omega] at g3
      have put : g = gr R n k → ∀ l5, j_Mod_writeRuns_111 post Q r (nI n) (nI w) (nI k) l5 (nI g) y := by
        intro eg l5
        rw [← eg] at f4
        unfold j_Mod_writeRuns_111
        have ev : uL (((2 : Int64) * (nI g).toInt64) + 1) = 2 * g + 1 := by rw [nI_l (by omega), show (2 : Int64) = lN 2 from rfl, lN_mul, lN_1, uL_lN (by omega)]
        refine s_varint f2 (by omega) (fun Y q1 q2 => ?_)
        rw [ev] at q2
        have rowZ := rowY.sh hr q1
        have hwg : w * g ≤ 32 * 1300 := Nat.mul_le_mul hw (by omega)
        have eg8 : ((8 : Int32) * nI w) * nI g = nI (8 * (w * g)) := by rw [show (8 : Int32) = nI 8 from rfl, nI_mul, nI_mul, Nat.mul_assoc]
        refine lp_Mod_writeRuns_127 (fun l1 l2 l3 l4 l5 l6 l7 z => r = l1 ∧ nI n = l2 ∧ nI w = l3 ∧ nI k = l4 ∧ nI g = l6 ∧ ∃ j, nI (8 * j) = l7 ∧ j ≤ w * g ∧ FrSh Y z ∧ Sh z (B2 ++ varB (2 * g + 1) ++ packB (gS R n k w) j)) (fun _ _ _ _ _ _ l7 _ => 400000 - l7.toNatClampNeg) ?_ _ _ _ _ _ _ _ _ ⟨rfl, rfl, rfl, rfl, rfl, 0, rfl, Nat.zero_le _, Fg.refl Y, by show Sh Y (_ ++ []); rw [List.append_nil]; exact q2⟩
        rintro Q3 l1 l2 l3 l4 l5 l6 l7 z ⟨rfl, rfl, rfl, rfl, rfl, j, rfl, j1, z1, z2⟩ ih3
        unfold j_Mod_writeRuns_127
        rw [eg8]
        have hlen : (B2 ++ varB (2 * g + 1) ++ packB (gS R n k w) j).length ≤ 2 ^ 28 + 2 ^ 20 + 50000 := by
          rw [List.length_append, List.length_append, packB_len]
          have := varB_len (2 * g + 1)
          omega
        by_cases cj : j < w * g
        · refine br_f (by (first | omega | (simp (disch := omega) only [Int32.le_iff_toInt_le, Int32.lt_iff_toInt_lt, z_eq, z_in, nI_toInt, z_cl, z_m1, z_sg, z_255, Int32.reduceToInt] <;> omega) | (simp only [Int32.le_iff_toInt_le, Int32.lt_iff_toInt_lt, z_eq, z_in, z_add, z_sub, z_mul, z_neg, z_nI, z_cl, z_sg, z_255, z_lit, Int32.reduceToInt] <;> omega))) ?_
          have hw0 : 0 < w := by
            rcases Nat.eq_zero_or_pos w with e | e
            · rw [e] at cj; omega
            · exact e
          -- the eight bits of a byte
          refine lp_Mod_writeRuns_145 (fun l1 l2 l3 l4 l5 l6 l7 l8 l9 y' => r = l1 ∧ nI n = l2 ∧ nI w = l3 ∧ nI k = l4 ∧ nI g = l6 ∧ nI (8 * j) = l7 ∧ z = y' ∧ ∃ i, nI i = l9 ∧ i ≤ 8 ∧ nI (sb (gS R n k w) (8 * j) i) = l8) (fun _ _ _ _ _ _ _ _ l9 _ => 10 - l9.toNatClampNeg) ?_ _ _ _ _ _ _ _ _ _ _ ⟨rfl, rfl, rfl, rfl, rfl, rfl, rfl, 0, rfl, by decide, rfl⟩
          rintro Q4 l1 l2 l3 l4 l5' l6 l7 l8 l9 y' ⟨rfl, rfl, rfl, rfl, rfl, rfl, rfl, i, rfl, i1, rfl⟩ ih4
          have rowW := rowZ.sh hr z1
          unfold j_Mod_writeRuns_145 j_Mod_writeRuns_192
          by_cases ci : i < 8
          · have w0 : ¬ nI w = 0 := fun e => by have := (nI_eq (b := 0) (by omega) (by decide)).mp e; omega
            have ea : nI (8 * j) + nI i = nI (8 * j + i) := nI_add _ _
            have hb := sb_lt (a := 8 * j) (gS_le R n k w) i
            have hb2 := sb_lt (a := 8 * j) (gS_le R n k w) (i + 1)
            have p8 : 2 ^ (i + 1) ≤ 2 ^ 8 := Nat.pow_le_pow_right (by decide) (by omega)
            have hm : (8 * j + i) % w < w := Nat.mod_lt _ hw0
            have hdv : (8 * j + i) / w ≤ 8 * j + i := Nat.div_le_self _ _
            have step : sb (gS R n k w) (8 * j) (i + 1) = sb (gS R n k w) (8 * j) i + gS R n k w (8 * j + i) * 2 ^ i := rfl
            have next : ∀ v, nI (sb (gS R n k w) (8 * j) (i + 1)) = v → Q4 r (nI n) (nI w) (nI k) l5' (nI g) (nI (8 * j)) v (nI i + 1) z := by
              intro v ev
              rw [nI_1]
              refine ih4 _ _ _ _ _ _ _ _ _ _ ⟨rfl, rfl, rfl, rfl, rfl, rfl, rfl, i + 1, rfl, by omega, ev⟩ ?_
              rw [nI_clamp (by omega), nI_clamp (by omega)]; omega
            refine br_f (by (first | omega | (simp (disch := omega) only [Int32.le_iff_toInt_le, Int32.lt_iff_toInt_lt, z_eq, z_in, nI_toInt, z_cl, z_m1, z_sg, z_255, Int32.reduceToInt] <;> omega) | (simp only [Int32.le_iff_toInt_le, Int32.lt_iff_toInt_lt, z_eq, z_in, z_add, z_sub, z_mul, z_neg, z_nI, z_cl, z_sg, z_255, z_lit, Int32.reduceToInt] <;> omega))) ⟨w0, ?_⟩
            rw [ea, pk_rem (a := 8 * j + i) (by omega) hw0 (by omega), pk_div (by omega) hw0 (by omega), nI_add]
            refine nm_e ?_
            by_cases cw : k + (8 * j + i) / w < n
            · refine br_f (by (first | omega | (simp (disch := omega) only [Int32.le_iff_toInt_le, Int32.lt_iff_toInt_lt, z_eq, z_in, nI_toInt, z_cl, z_m1, z_sg, z_255, Int32.reduceToInt] <;> omega) | (simp only [Int32.le_iff_toInt_le, Int32.lt_iff_toInt_lt, z_eq, z_in, z_add, z_sub, z_mul, z_neg, z_nI, z_cl, z_sg, z_255, z_lit, Int32.reduceToInt] <;> omega))) ⟨vp_in_nI (by have := rowW.1; omega) rowW.2.1, w0, nm_e (next _ ?_)⟩
              rw [rA_nI (by omega), rowW.2.2 _ cw, ushr_1 (by omega), pk_shlN _ i (s_l _ (by omega)) (by
                have : nbit (uI (R (k + (8 * j + i) / w))) ((8 * j + i) % w) * 2 ^ i ≤ 1 * 2 ^ i := Nat.mul_le_mul_right _ (nbit_le _ _)
                have : 2 ^ i ≤ 2 ^ 8 := Nat.pow_le_pow_right (by decide) (by omega)
                omega)]
              have es : gS R n k w (8 * j + i) = nbit (uI (R (k + (8 * j + i) / w))) ((8 * j + i) % w) := by unfold gS; rw [if_pos cw]
              rw [step, es] at hb2 ⊢
              rw [nI_orA hb (by omega)]
            · refine br_t (by (first | omega | (simp (disch := omega) only [Int32.le_iff_toInt_le, Int32.lt_iff_toInt_lt, z_eq, z_in, nI_toInt, z_cl, z_m1, z_sg, z_255, Int32.reduceToInt] <;> omega) | (simp only [Int32.le_iff_toInt_le, Int32.lt_iff_toInt_lt, z_eq, z_in, z_add, z_sub, z_mul, z_neg, z_nI, z_cl, z_sg, z_255, z_lit, Int32.reduceToInt] <;> omega))) (next _ ?_)
              have es : gS R n k w (8 * j + i) = 0 := by unfold gS; rw [if_neg cw]; unfold nbit; rw [Nat.zero_div]
              rw [step, es]
              congr 1
              omega
          · have ei : i = 8 := by omega
            subst ei
            have hb := sb_lt (a := 8 * j) (gS_le R n k w) 8
            refine br_t (by decide) (s_put (b := sb (gS R n k w) (8 * j) 8) z2 (by omega) (by omega) (by rw [nI_255, Nat.mod_eq_of_lt (by omega)]) (fun W w1 w2 => ?_))
            rw [show (8 : Int32) = nI 8 from rfl, nI_add]
            refine ih3 _ _ _ _ _ _ _ _ ⟨rfl, rfl, rfl, rfl, rfl, j + 1, by rw [Nat.mul_succ], by omega, z1.trans w1, ?_⟩ ?_
            · rw [packB_s, ← List.append_assoc]; exact w2
            · rw [nI_clamp (by omega), nI_clamp (by omega)]; omega
        · have ej : j = w * g := by omega
          rw [ej] at z2
          refine br_t (by (first | omega | (simp (disch := omega) only [Int32.le_iff_toInt_le, Int32.lt_iff_toInt_lt, z_eq, z_in, nI_toInt, z_cl, z_m1, z_sg, z_255, Int32.reduceToInt] <;> omega) | (simp only [Int32.le_iff_toInt_le, Int32.lt_iff_toInt_lt, z_eq, z_in, z_add, z_sub, z_mul, z_neg, z_nI, z_cl, z_sg, z_255, z_lit, Int32.reduceToInt] <;> omega))) (nm_r (e' := nI (k + 8 * g)) e8 ?_)
          refine ih _ _ _ _ _ ⟨rfl, rfl, rfl, k + 8 * g, d, B2 ++ varB (2 * g + 1) ++ packB (gS R n k w) (g * w), rfl, by omega, by omega, by omega, (f1.trans q1).trans z1, by rw [Nat.mul_comm g w]; exact z2, ?_, ?_⟩ ?_
          · have e := congrArg List.length f4
            simp only [List.length_append] at e tot ⊢
            omega
          · rw [← f4, List.append_assoc, List.append_assoc]
          · rw [nI_clamp (by omega), nI_clamp (by omega)]; omega
      unfold j_Mod_writeRuns_75
      rw [e8]
      by_cases c9 : k + 8 * g < n
      · refine br_f (by (first | omega | (simp (disch := omega) only [Int32.le_iff_toInt_le, Int32.lt_iff_toInt_lt, z_eq, z_in, nI_toInt, z_cl, z_m1, z_sg, z_255, Int32.reduceToInt] <;> omega) | (simp only [Int32.le_iff_toInt_le, Int32.lt_iff_toInt_lt, z_eq, z_in, z_add, z_sub, z_mul, z_neg, z_nI, z_cl, z_sg, z_255, z_lit, Int32.reduceToInt] <;> omega))) (s_alike rowY c9 ?_)
        have hsm2 := sm_le (R := R) (show k + 8 * g ≤ n by omega)
        by_cases c10 : 8 ≤ sm R n (k + 8 * g)
        · rw [if_neg (by omega)] at g3
          exact br_t (by (first | omega | (simp (disch := omega) only [Int32.le_iff_toInt_le, Int32.lt_iff_toInt_lt, z_eq, z_in, nI_toInt, z_cl, z_m1, z_sg, z_255, Int32.reduceToInt] <;> omega) | (simp only [Int32.le_iff_toInt_le, Int32.lt_iff_toInt_lt, z_eq, z_in, z_add, z_sub, z_mul, z_neg, z_nI, z_cl, z_sg, z_255, z_lit, Int32.reduceToInt] <;> omega))) (put (by omega) _)
        · rw [if_pos ⟨c9, by omega⟩] at g3
          refine br_f (by (first | omega | (simp (disch := omega) only [Int32.le_iff_toInt_le, Int32.lt_iff_toInt_lt, z_eq, z_in, nI_toInt, z_cl, z_m1, z_sg, z_255, Int32.reduceToInt] <;> omega) | (simp only [Int32.le_iff_toInt_le, Int32.lt_iff_toInt_lt, z_eq, z_in, z_add, z_sub, z_mul, z_neg, z_nI, z_cl, z_sg, z_255, z_lit, Int32.reduceToInt] <;> omega))) ?_
          rw [nI_1]
          have hg8 := gr_le (R := R) (n := n) n (k + 8 * g) (by omega) c9
          refine ih2 _ _ _ _ _ _ _ ⟨rfl, rfl, rfl, rfl, rfl, g + 1, rfl, by omega, by omega, ?_⟩ ?_
          · rw [Nat.add_sub_cancel]; omega
          · rw [nI_clamp (by omega), nI_clamp (by omega)]; omega
      · rw [if_neg (by omega)] at g3
        exact br_t (by (first | omega | (simp (disch := omega) only [Int32.le_iff_toInt_le, Int32.lt_iff_toInt_lt, z_eq, z_in, nI_toInt, z_cl, z_m1, z_sg, z_255, Int32.reduceToInt] <;> omega) | (simp only [Int32.le_iff_toInt_le, Int32.lt_iff_toInt_lt, z_eq, z_in, z_add, z_sub, z_mul, z_neg, z_nI, z_cl, z_sg, z_255, z_lit, Int32.reduceToInt] <;> omega))) (put (by omega) _)
  · refine br_t (by (first | omega | (simp (disch := omega) only [Int32.le_iff_toInt_le, Int32.lt_iff_toInt_lt, z_eq, z_in, nI_toInt, z_cl, z_m1, z_sg, z_255, Int32.reduceToInt] <;> omega) | (simp only [Int32.le_iff_toInt_le, Int32.lt_iff_toInt_lt, z_eq, z_in, z_add, z_sub, z_mul, z_neg, z_nI, z_cl, z_sg, z_255, z_lit, Int32.reduceToInt] <;> omega))) (p y f1 ?_)
    have e : runF R n w d k = [] := by
      cases d with
      | zero => rfl
      | succ d => simp only [runF]; rw [if_pos (by omega)]
    rw [e, List.append_nil] at f4
    rw [← f4]
    exact f2
