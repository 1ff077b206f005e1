/-! the CODE of the class -/
theorem zz_eq (v : Int64) : (v <<< ((1 : Int32).toInt64 &&& 63)) ^^^ (v >>> ((63 : Int32).toInt64 &&& 63)) = zg v := by
  have h1 : v <<< ((1 : Int32).toInt64 &&& 63) = 2 * v := by
    have := wb_shl (uL v) (k := 1) (by decide)
    rw [lN_uL] at this
    rw [show ((1 : Int32).toInt64 &&& 63) = ((nI 1).toInt64 &&& 63) from rfl, this, Nat.mul_comm, ← lN_mul, lN_uL]
    rfl
  have h2 : v >>> ((63 : Int32).toInt64 &&& 63) = if v < 0 then -1 else 0 := by
    apply Int64.toBitVec_inj.mp
    apply BitVec.eq_of_getLsbD_eq
    intro i hi
    have e : (v >>> ((63 : Int32).toInt64 &&& 63)).toBitVec.getLsbD i = v.toBitVec.getLsbD 63 := by
      rw [Int64.toBitVec_shiftRight]
      show (v.toBitVec.sshiftRight (((63 : Int32).toInt64 &&& 63).toBitVec.smod 64).toNat).getLsbD i = _
      rw [show (((63 : Int32).toInt64 &&& 63).toBitVec.smod 64).toNat = 63 by decide, BitVec.getLsbD_sshiftRight, BitVec.msb_eq_getLsbD_last]
      by_cases c : 63 + i < 64
      · have : i = 0 := by omega
        subst this
        simp
      · simp [c, hi]
    rw [e]
    have hm : v < 0 ↔ v.toBitVec.getLsbD 63 = true := by
      have a := lN_neg (uL_lt v)
      rw [lN_uL] at a
      rw [a]
      show _ ↔ (uL v).testBit 63 = true
      rw [Nat.testBit_eq_decide_div_mod_eq, decide_eq_true_eq]
      have := uL_lt v
      omega
    by_cases c : v < 0
    · rw [if_pos c, hm.mp c]
      have : ∀ i, i < 64 → (-1 : Int64).toBitVec.getLsbD i = true := by decide +kernel
      exact (this i hi).symm
    · rw [if_neg c]
      have z : v.toBitVec.getLsbD 63 = false := bt_f (fun z => c (hm.mpr z))
      rw [z]
      exact BitVec.getLsbD_zero.symm
  rw [h1, h2]
  unfold zg
  by_cases c : v < 0
  · rw [if_pos c, if_pos c]
    apply Int64.toBitVec_inj.mp
    rw [Int64.toBitVec_xor, show (-1 : Int64).toBitVec = BitVec.allOnes 64 from by decide, BitVec.xor_allOnes, BitVec.not_eq_neg_add]
    show -((2 : Int64).toBitVec * v.toBitVec) - 1#64 = ((-2 : Int64).toBitVec * v.toBitVec) - 1#64
    rw [← BitVec.neg_mul]
    rfl
  · rw [if_neg c, if_neg c, Int64.xor_zero]
theorem c_zigzag {post : Int64 → St → Prop} {x : St} {v : Int64} (p : post (zg v) x) : wp_V_zigzag post v x := by
  unfold wp_V_zigzag
  rw [zz_eq]
  exact p
theorem c_widthOf {post : Int32 → St → Prop} {x : St} {v : Int64} (p : post (nI (bl (uL v))) x) : wp_V_widthOf post v x := by
  have hb := bl_le.mpr (uL_lt v)
  refine lp_V_widthOf_2 (fun l0 l2 y => v = l0 ∧ x = y ∧ ∃ w, nI w = l2 ∧ w ≤ bl (uL v)) (fun _ l2 _ => 100 - l2.toNatClampNeg) ?_ _ _ _ ⟨rfl, rfl, 0, rfl, Nat.zero_le _⟩
  rintro Q l0 l2 y ⟨rfl, rfl, w, rfl, w1⟩ ih
  have out : w = bl (uL v) → j_V_widthOf_22 post v (nI w) x := by
    intro z
    unfold j_V_widthOf_22
    rw [z]; exact p
  unfold j_V_widthOf_2
  by_cases d3 : w < 64
  · refine br_f (by (first | omega | (simp (disch := omega) only [Int32.le_iff_toInt_le, Int32.lt_iff_toInt_lt, z_eq, z_in, nI_toInt, z_cl, z_m1, z_sg, z_255, Int32.reduceToInt] <;> omega) | (simp only [Int32.le_iff_toInt_le, Int32.lt_iff_toInt_lt, z_eq, z_in, z_add, z_sub, z_mul, z_neg, z_nI, z_cl, z_sg, z_255, z_lit, Int32.reduceToInt] <;> omega))) ?_
    by_cases d4 : bl (uL v) ≤ w
    · exact br_t ((lg_cmp_eq _ _).mpr ((ushr0 d3).mpr d4)) (out (by omega))
    · refine br_f (fun z => d4 ((ushr0 d3).mp ((lg_cmp_eq _ _).mp z))) ?_
      rw [nI_1]
      refine ih _ _ _ ⟨rfl, rfl, w + 1, rfl, by omega⟩ ?_
      rw [nI_clamp (by omega), nI_clamp (by omega)]
      omega
  · exact br_t (by (first | omega | (simp (disch := omega) only [Int32.le_iff_toInt_le, Int32.lt_iff_toInt_lt, z_eq, z_in, nI_toInt, z_cl, z_m1, z_sg, z_255, Int32.reduceToInt] <;> omega) | (simp only [Int32.le_iff_toInt_le, Int32.lt_iff_toInt_lt, z_eq, z_in, z_add, z_sub, z_mul, z_neg, z_nI, z_cl, z_sg, z_255, z_lit, Int32.reduceToInt] <;> omega))) (out (by omega))
theorem bl_or (a b : Nat) : bl (a ||| b) = max (bl a) (bl b) := by
  apply Nat.le_antisymm
  · rw [bl_le]
    exact Nat.or_lt_two_pow (bl_le.mp (Nat.le_max_left _ _)) (bl_le.mp (Nat.le_max_right _ _))
  · apply Nat.max_le.mpr
    constructor
    · exact bl_le.mpr (Nat.lt_of_le_of_lt Nat.left_le_or (bl_le.mp (Nat.le_refl _)))
    · exact bl_le.mpr (Nat.lt_of_le_of_lt Nat.right_le_or (bl_le.mp (Nat.le_refl _)))
theorem uL_or (a b : Int64) : uL (a ||| b) = uL a ||| uL b := by unfold uL; rw [Int64.toBitVec_or, BitVec.toNat_or]
def RwL (x : St) (r : Nat) (V : Nat → Int64) (m : Nat) : Prop := m ≤ fN x r ∧ fN x r < 2 ^ 31 ∧ ∀ i, i < m → fL x r i = V i
theorem RwL.k {r s m : Nat} {V : Nat → Int64} (h : r < 152) : ∀ x y, SkS x → FK s x y → RwL x r V m → RwL y r V m := fun x y _ f z => by
  unfold RwL
  rw [show fN y r = fN x r from f.2.2.2.2.2.1 r h, show fL y r = fL x r from f.2.2.2.2.1 r (fun z => z)]
  exact z
/-- one sink, and its row of widths -/
abbrev FKw (s : Nat) (x y : St) : Prop := FX (fun o k => o = s ∧ (k = 1 ∨ k = 2 ∨ k = 5 ∨ k = 6)) no2 no2 (fun a => a = stC s 4) no1 (fun o => o = s) x y
theorem FK.w {s : Nat} {x y : St} (hs : SnkId s) (h : FK s x y) : FKw s x y := h.mono (fun t e => by rw [e]; exact hs) (fun _ _ => id) (fun _ _ z => z) (fun _ _ z => z) (fun _ _ z => z) (fun _ z => z.elim) (fun _ z => z) (fun _ z => z)
theorem FKw.trans {s : Nat} {x y z : St} (hs : SnkId s) (h : FKw s x y) (k : FKw s y z) : FKw s x z := FX.trans (fun _ _ => id) id (fun t e => by rw [e]; exact hs) h k
theorem RwL.w {r s m : Nat} {V : Nat → Int64} (h : r < 152) {x y : St} (f : FKw s x y) (z : RwL x r V m) : RwL y r V m := by
  unfold RwL
  rw [show fN y r = fN x r from f.2.2.2.2.2.1 r h, show fL y r = fL x r from f.2.2.2.2.1 r (fun z => z)]
  exact z
def AppW (κ : Nat → Nat) (s : Nat) (B C : List Nat) (Pre : St → Prop) (W : (St → Prop) → Nat → Nat → St → Prop) : Prop := ∃ κ', Kle κ κ' ∧ ∀ x post kb nb, SkS x → Caps x κ → Snk x s B → Pre x → KP κ ≤ kb + KP κ' → NP κ ≤ nb + NP κ' → (∀ y, SkS y → Caps y κ' → FKw s x y → Snk y s (B ++ C) → post y) → W post kb nb x
theorem wRow : ∀ s, SnkId s → stC s 4 < 152 ∧ ¬ skRow (stC s 4) ∧ lenC.getD (stC s 4) 0 = 4 := by
  intro s hs
  rcases hs with rfl | rfl | rfl | rfl | rfl | rfl | rfl | rfl | rfl <;> refine ⟨by decide +kernel, ?_, by decide +kernel⟩ <;> unfold skRow <;> decide +kernel
theorem wKeep {s : Nat} {x y : St} (hs : SnkId s) (hK : SkS x) (f : FK s x y) : fA y (stC s 4) = fA x (stC s 4) ∧ fN y (stC s 4) = fN x (stC s 4) := by
  have h := wRow s hs
  refine f.2.2.2.1 _ (Or.inl h.1) (fun z => z.elim) (fun t e z => ?_)
  subst e
  obtain ⟨-, q, a1, a2, -⟩ := hK t hs
  rw [z] at a1
  rw [← Option.some.inj a1] at a2
  exact h.2.1 a2
/-- a row that no sink has is set -/
theorem setA_sk {x : St} {r : Nat} {i v : Int32} (hK : SkS x) (hr : ¬ skRow r) : SkS (setA x r i v) := by
  intro t ht
  obtain ⟨a0, q, a1, a2, a3, a4, a5, a6⟩ := hK t ht
  refine ⟨a0, q, a1, a2, a3, a4, ?_, a6⟩
  rw [gA_ne (fun z => hr (by rw [← z]; exact a2))]
  exact a5
theorem setA_snk {x : St} {r t : Nat} {i v : Int32} {B : List Nat} (hK : SkS x) (ht : SnkId t) (hr : ¬ skRow r) (h : Snk x t B) : Snk (setA x r i v) t B := by
  obtain ⟨-, q, b1, b2, -⟩ := hK t ht
  have ne : q ≠ r := fun z => hr (by rw [← z]; exact b2)
  refine ⟨h.1, h.2.1, ?_⟩
  rcases h.2.2 with ⟨g1, g2⟩ | g
  · refine Or.inl ⟨g1, g2.cg rfl rfl rfl (fun p hp => ⟨?_, rfl⟩)⟩
    rw [b1] at hp
    rw [← Option.some.inj hp]
    exact gA_ne ne
  · exact Or.inr g
theorem FKw.a {x : St} {s : Nat} {i v : Int32} : FKw s x (setA x (stC s 4) i v) := by
  refine ⟨fun _ _ _ => rfl, fun _ _ _ => rfl, fun _ _ _ _ => rfl, fun r _ c _ => ⟨gA_ne c, rfl⟩, fun _ _ => rfl, fun _ _ => rfl, fun t r a b => Or.inl ⟨t, a, b⟩⟩
section Blk
variable {s r m a last : Nat} {V : Nat → Int64} {l : Int64}
/-- the widths of the first parts lie in the sink's row -/
def WdC (x : St) (s : Nat) (V : Nat → Int64) (l : Int64) (last a q : Nat) : Prop := fN x (stC s 4) = 4 ∧ ∀ i, i < q → fA x (stC s 4) i = nI (wP V l last (a + 16 * i))
theorem WdC.k {q : Nat} {x y : St} (hs : SnkId s) (hK : SkS x) (f : FK s x y) (h : WdC x s V l last a q) : WdC y s V l last a q := by
  have e := wKeep hs hK f
  unfold WdC
  rw [e.1, e.2]
  exact h
/-- the bits of one part -/
theorem k_partL (hs : SnkId s) (hr : r < 152) (hm : m ≤ 2000) (hl : last + 1 ≤ m) {q : Nat} (hq : q < 4) (ha : a + 16 * q < last) {B : List Nat} : ∀ c i f κ, i + c = 16 → c < f → (∀ t, SnkId t → κ t ≤ roomOf t) →
    ∃ κ1, Kle κ κ1 ∧ ∀ κ2, Kle κ1 κ2 → ∀ x post kb nb (rec154 : Nat → Nat → Int32 → Int32 → Int64 → Int32 → Nat → Nat → St → Prop), SkS x → Caps x κ → BitS x s B (pS V l last (a + 16 * q) (wP V l last (a + 16 * q))) (i * wP V l last (a + 16 * q)) → RwL x r V m ∧ WdC x s V l last a 4 → KP κ ≤ kb + KP κ2 → NP κ ≤ nb + NP κ2 → (∀ y k n, SkS y → Caps y κ1 → FK s x y → BitS y s B (pS V l last (a + 16 * q) (wP V l last (a + 16 * q))) (16 * wP V l last (a + 16 * q)) → KP κ1 ≤ k + KP κ2 → NP κ1 ≤ n + NP κ2 → rec154 s r (nI (a + 1)) (nI (last + 1)) l (nI (q + 1)) k n y) → wl_Snk_putBlock_173 post rec154 f s r (nI (a + 1)) (nI (last + 1)) l (nI q) (nI (a + 1 + 16 * q)) (nI (a + 1 + 16 * q + i)) kb nb x := by
  intro c
  induction c with
  | zero =>
    intro i f κ hi hf hκ
    obtain ⟨f, rfl⟩ : ∃ e, f = e + 1 := ⟨f - 1, by omega⟩
    have ei : i = 16 := by omega
    subst ei
    refine ⟨κ, Kle.refl hκ, fun κ2 m2 x post kb nb rec154 hK hC h hp hk hn p => ?_⟩
    show j_Snk_putBlock_173 post rec154 _ s r _ _ _ _ _ _ kb nb x
    unfold j_Snk_putBlock_173 j_Snk_putBlock_230
    rw [show (16 : Int32) = nI 16 from rfl, nI_add, nI_1]
    exact br_t (by (first | omega | (simp (disch := omega) only [Int32.le_iff_toInt_le, Int32.lt_iff_toInt_lt, z_eq, z_in, nI_toInt, z_cl, z_m1, z_sg, z_255, Int32.reduceToInt] <;> omega) | (simp only [Int32.le_iff_toInt_le, Int32.lt_iff_toInt_lt, z_eq, z_in, z_add, z_sub, z_mul, z_neg, z_nI, z_cl, z_sg, z_255, z_lit, Int32.reduceToInt] <;> omega))) (p x kb nb hK hC (FX.refl x) h hk hn)
  | succ c ih =>
    intro i f κ hi hf hκ
    obtain ⟨f, rfl⟩ : ∃ e, f = e + 1 := ⟨f - 1, by omega⟩
    have hS := pS_le V l last (a + 16 * q) (wP V l last (a + 16 * q))
    have hw := @wP_le V l last (a + 16 * q)
    have st : ∀ x y, SkS x → FK s x y → RwL x r V m ∧ WdC x s V l last a 4 → RwL y r V m ∧ WdC y s V l last a 4 := fun x y hK f z => ⟨RwL.k hr x y hK f z.1, z.2.k hs hK f⟩
    generalize hwd : wP V l last (a + 16 * q) = w at *
    have bits : ∀ v : Int64, (∀ j, j < w → nbit (if a + 16 * q + i < last then uL (df V (a + 16 * q + i) - l) else 0) j = nbit (uL v) j) → AppB κ s B (pS V l last (a + 16 * q) w) (i * w) (i * w + w) (fun x => RwL x r V m ∧ WdC x s V l last a 4) (fun post kb nb x => wp_Snk_putBits post s v (nI w) kb nb x) := fun v hv => k_bits hs st hS hw (fun j hj => by
      rw [← hv j hj]
      unfold pS
      have e1 : (i * w + j) / w = i := by rw [Nat.add_comm, Nat.add_mul_div_right _ _ (by omega), Nat.div_eq_of_lt hj, Nat.zero_add]
      have e2 : (i * w + j) % w = j := by rw [Nat.add_comm, Nat.add_mul_mod_self_right, Nat.mod_eq_of_lt hj]
      rw [e1, e2]) hκ
    have e1w : i * w + w = (i + 1) * w := by rw [Nat.add_mul, Nat.one_mul]
    have go : ∀ v : Int64, (∀ j, j < w → nbit (if a + 16 * q + i < last then uL (df V (a + 16 * q + i) - l) else 0) j = nbit (uL v) j) → ∃ κ1, Kle κ κ1 ∧ ∀ κ2, Kle κ1 κ2 → ∀ x post kb nb (rec154 : Nat → Nat → Int32 → Int32 → Int64 → Int32 → Nat → Nat → St → Prop), SkS x → Caps x κ → BitS x s B (pS V l last (a + 16 * q) w) (i * w) → RwL x r V m ∧ WdC x s V l last a 4 → KP κ ≤ kb + KP κ2 → NP κ ≤ nb + NP κ2 → (∀ y k n, SkS y → Caps y κ1 → FK s x y → BitS y s B (pS V l last (a + 16 * q) w) (16 * w) → KP κ1 ≤ k + KP κ2 → NP κ1 ≤ n + NP κ2 → rec154 s r (nI (a + 1)) (nI (last + 1)) l (nI (q + 1)) k n y) → j_Snk_putBlock_214 post rec154 (wl_Snk_putBlock_173 post rec154 f) s r (nI (a + 1)) (nI (last + 1)) l (nI q) (nI (a + 1 + 16 * q)) (nI (a + 1 + 16 * q + i)) v s kb nb x := by
      intro v hv
      obtain ⟨κa, ma, fa⟩ := bits v hv
      obtain ⟨κ1, m1, f1⟩ := ih (i + 1) f κa (by omega) (by omega) (fun t ht => (ma t ht).2)
      refine ⟨κ1, ma.trans m1, fun κ2 m2 x post kb nb rec154 hK hC h hp hk hn p => ?_⟩
      unfold j_Snk_putBlock_214
      rw [rA_nI (by omega), hp.2.2 q hq, hp.2.1, hwd]
      refine ⟨vp_in_nI hq (by decide), bseq ma (m1.trans m2) hk hn (fun k1 n1 k2 n2 b1 b2 b3 b4 => fa x _ k1 n1 hK hC h hp b1 b2 (fun y y1 y2 y3 y4 => ?_))⟩
      rw [nI_1]
      rw [e1w] at y4
      exact f1 κ2 m2 y post k2 n2 rec154 y1 y2 y4 (st x y hK y3 hp) b3 b4 (fun z k n z1 z2 z3 z4 z5 z6 => p z k n z1 z2 (FK.trans hs y3 z3) z4 z5 z6)
    by_cases cc : a + 16 * q + i < last
    · obtain ⟨κ1, m1, f1⟩ := go (df V (a + 16 * q + i) - l) (fun j _ => by rw [if_pos cc])
      refine ⟨κ1, m1, fun κ2 m2 x post kb nb rec154 hK hC h hp hk hn p => ?_⟩
      show j_Snk_putBlock_173 post rec154 _ s r _ _ _ _ _ _ kb nb x
      unfold j_Snk_putBlock_173
      rw [show (16 : Int32) = nI 16 from rfl, nI_add, show (1 : Int32) = nI 1 from rfl, nI_sub (by omega)]
      have e2 : a + 1 + 16 * q + i - 1 = a + 16 * q + i := by omega
      have e3 : a + 1 + 16 * q + i = (a + 16 * q + i) + 1 := by omega
      have l1 := hp.1.1
      refine br_f (by (first | omega | (simp (disch := omega) only [Int32.le_iff_toInt_le, Int32.lt_iff_toInt_lt, z_eq, z_in, nI_toInt, z_cl, z_m1, z_sg, z_255, Int32.reduceToInt] <;> omega) | (simp only [Int32.le_iff_toInt_le, Int32.lt_iff_toInt_lt, z_eq, z_in, z_add, z_sub, z_mul, z_neg, z_nI, z_cl, z_sg, z_255, z_lit, Int32.reduceToInt] <;> omega))) (br_f (by (first | omega | (simp (disch := omega) only [Int32.le_iff_toInt_le, Int32.lt_iff_toInt_lt, z_eq, z_in, nI_toInt, z_cl, z_m1, z_sg, z_255, Int32.reduceToInt] <;> omega) | (simp only [Int32.le_iff_toInt_le, Int32.lt_iff_toInt_lt, z_eq, z_in, z_add, z_sub, z_mul, z_neg, z_nI, z_cl, z_sg, z_255, z_lit, Int32.reduceToInt] <;> omega))) (br_f (by (first | omega | (simp (disch := omega) only [Int32.le_iff_toInt_le, Int32.lt_iff_toInt_lt, z_eq, z_in, nI_toInt, z_cl, z_m1, z_sg, z_255, Int32.reduceToInt] <;> omega) | (simp only [Int32.le_iff_toInt_le, Int32.lt_iff_toInt_lt, z_eq, z_in, z_add, z_sub, z_mul, z_neg, z_nI, z_cl, z_sg, z_255, z_lit, Int32.reduceToInt] <;> omega))) ⟨vp_in_nI (by omega) hp.1.2.1, vp_in_nI (by omega) hp.1.2.1, ?_⟩))
      rw [rL_nI (by omega), rL_nI (by omega), hp.1.2.2 _ (by omega), hp.1.2.2 _ (by omega), e2]
      have f1' := f1 κ2 m2 x post kb nb rec154 hK hC h hp hk hn p
      rw [e3] at f1' ⊢
      exact f1'
    · obtain ⟨κ1, m1, f1⟩ := go 0 (fun j _ => by rw [if_neg cc]; rfl)
      refine ⟨κ1, m1, fun κ2 m2 x post kb nb rec154 hK hC h hp hk hn p => ?_⟩
      show j_Snk_putBlock_173 post rec154 _ s r _ _ _ _ _ _ kb nb x
      unfold j_Snk_putBlock_173
      rw [show (16 : Int32) = nI 16 from rfl, nI_add]
      exact br_f (by (first | omega | (simp (disch := omega) only [Int32.le_iff_toInt_le, Int32.lt_iff_toInt_lt, z_eq, z_in, nI_toInt, z_cl, z_m1, z_sg, z_255, Int32.reduceToInt] <;> omega) | (simp only [Int32.le_iff_toInt_le, Int32.lt_iff_toInt_lt, z_eq, z_in, z_add, z_sub, z_mul, z_neg, z_nI, z_cl, z_sg, z_255, z_lit, Int32.reduceToInt] <;> omega))) (br_f (by (first | omega | (simp (disch := omega) only [Int32.le_iff_toInt_le, Int32.lt_iff_toInt_lt, z_eq, z_in, nI_toInt, z_cl, z_m1, z_sg, z_255, Int32.reduceToInt] <;> omega) | (simp only [Int32.le_iff_toInt_le, Int32.lt_iff_toInt_lt, z_eq, z_in, z_add, z_sub, z_mul, z_neg, z_nI, z_cl, z_sg, z_255, z_lit, Int32.reduceToInt] <;> omega))) (br_t (by (first | omega | (simp (disch := omega) only [Int32.le_iff_toInt_le, Int32.lt_iff_toInt_lt, z_eq, z_in, nI_toInt, z_cl, z_m1, z_sg, z_255, Int32.reduceToInt] <;> omega) | (simp only [Int32.le_iff_toInt_le, Int32.lt_iff_toInt_lt, z_eq, z_in, z_add, z_sub, z_mul, z_neg, z_nI, z_cl, z_sg, z_255, z_lit, Int32.reduceToInt] <;> omega))) (f1 κ2 m2 x post kb nb rec154 hK hC h hp hk hn p)))
/-- the parts -/
theorem k_partsL (hs : SnkId s) (hr : r < 152) (hm : m ≤ 2000) (hl : last + 1 ≤ m) (hal : a < last) : ∀ c q f κ B, q + c = 4 → c < f → (∀ t, SnkId t → κ t ≤ roomOf t) → App κ s B (prtF V l last c (a + 16 * q)) (fun x => RwL x r V m ∧ WdC x s V l last a 4) (fun post kb nb x => wl_Snk_putBlock_154 post f s r (nI (a + 1)) (nI (last + 1)) l (nI q) kb nb x) := by
  intro c
  induction c with
  | zero =>
    intro q f κ B hq hf hκ
    obtain ⟨f, rfl⟩ : ∃ e, f = e + 1 := ⟨f - 1, by omega⟩
    refine (App.nil hκ).cg (fun post kb nb x _ _ _ z => ?_)
    show j_Snk_putBlock_154 post _ s r _ _ _ _ kb nb x
    unfold j_Snk_putBlock_154
    exact br_t (by (first | omega | (simp (disch := omega) only [Int32.le_iff_toInt_le, Int32.lt_iff_toInt_lt, z_eq, z_in, nI_toInt, z_cl, z_m1, z_sg, z_255, Int32.reduceToInt] <;> omega) | (simp only [Int32.le_iff_toInt_le, Int32.lt_iff_toInt_lt, z_eq, z_in, z_add, z_sub, z_mul, z_neg, z_nI, z_cl, z_sg, z_255, z_lit, Int32.reduceToInt] <;> omega))) z
  | succ c ih =>
    intro q f κ B hq hf hκ
    obtain ⟨f, rfl⟩ : ∃ e, f = e + 1 := ⟨f - 1, by omega⟩
    have st : ∀ x y, SkS x → FK s x y → RwL x r V m ∧ WdC x s V l last a 4 → RwL y r V m ∧ WdC y s V l last a 4 := fun x y hK f z => ⟨RwL.k hr x y hK f z.1, z.2.k hs hK f⟩
    have e1 : prtF V l last (c + 1) (a + 16 * q) = packB (pS V l last (a + 16 * q) (wP V l last (a + 16 * q))) (2 * wP V l last (a + 16 * q)) ++ prtF V l last c (a + 16 * (q + 1)) := by rw [Nat.mul_succ, ← Nat.add_assoc]; rfl
    have e16 : nI (a + 1) + 16 * nI q = nI (a + 1 + 16 * q) := by rw [show (16 : Int32) = nI 16 from rfl, nI_mul, nI_add]
    rw [e1]
    by_cases ca : a + 16 * q < last
    · obtain ⟨κ1, m1, f1⟩ := k_partL (V := V) (l := l) (B := B) hs hr hm hl (by omega : q < 4) ca 16 0 17 κ (by omega) (by omega) hκ
      obtain ⟨κ2, m2, f2⟩ := ih (q + 1) f κ1 (B ++ packB (pS V l last (a + 16 * q) (wP V l last (a + 16 * q))) (2 * wP V l last (a + 16 * q))) (by omega) (by omega) (fun t ht => (m1 t ht).2)
      refine ⟨κ2, m1.trans m2, fun x post kb nb hK hC h hp hk hn p => ?_⟩
      show j_Snk_putBlock_154 post _ s r _ _ _ _ kb nb x
      unfold j_Snk_putBlock_154
      rw [e16]
      refine br_f (by (first | omega | (simp (disch := omega) only [Int32.le_iff_toInt_le, Int32.lt_iff_toInt_lt, z_eq, z_in, nI_toInt, z_cl, z_m1, z_sg, z_255, Int32.reduceToInt] <;> omega) | (simp only [Int32.le_iff_toInt_le, Int32.lt_iff_toInt_lt, z_eq, z_in, z_add, z_sub, z_mul, z_neg, z_nI, z_cl, z_sg, z_255, z_lit, Int32.reduceToInt] <;> omega))) (nm_e ⟨17, f1 κ2 m2 x post kb nb _ hK hC (by rw [Nat.zero_mul]; exact h.bit) hp hk hn (fun y k n y1 y2 y3 y4 y5 y6 => f2 y post k n y1 y2 (y4.snk (by omega)) (st x y hK y3 hp) y5 y6 (fun z z1 z2 z3 z4 => p z z1 z2 (FK.trans hs y3 z3) ?_))⟩)
      rw [← List.append_assoc]; exact z4
    · rw [wP_0 (by omega)]
      obtain ⟨κ2, m2, f2⟩ := ih (q + 1) f κ B (by omega) (by omega) hκ
      refine ⟨κ2, m2, fun x post kb nb hK hC h hp hk hn p => ?_⟩
      show j_Snk_putBlock_154 post _ s r _ _ _ _ kb nb x
      unfold j_Snk_putBlock_154
      rw [e16]
      refine br_f (by (first | omega | (simp (disch := omega) only [Int32.le_iff_toInt_le, Int32.lt_iff_toInt_lt, z_eq, z_in, nI_toInt, z_cl, z_m1, z_sg, z_255, Int32.reduceToInt] <;> omega) | (simp only [Int32.le_iff_toInt_le, Int32.lt_iff_toInt_lt, z_eq, z_in, z_add, z_sub, z_mul, z_neg, z_nI, z_cl, z_sg, z_255, z_lit, Int32.reduceToInt] <;> omega))) (nm_e ⟨1, ?_⟩)
      show j_Snk_putBlock_173 post _ _ s r _ _ _ _ _ _ kb nb x
      unfold j_Snk_putBlock_173 j_Snk_putBlock_230
      rw [show (16 : Int32) = nI 16 from rfl, nI_add, nI_1]
      exact br_f (by (first | omega | (simp (disch := omega) only [Int32.le_iff_toInt_le, Int32.lt_iff_toInt_lt, z_eq, z_in, nI_toInt, z_cl, z_m1, z_sg, z_255, Int32.reduceToInt] <;> omega) | (simp only [Int32.le_iff_toInt_le, Int32.lt_iff_toInt_lt, z_eq, z_in, z_add, z_sub, z_mul, z_neg, z_nI, z_cl, z_sg, z_255, z_lit, Int32.reduceToInt] <;> omega))) (br_t (by (first | omega | (simp (disch := omega) only [Int32.le_iff_toInt_le, Int32.lt_iff_toInt_lt, z_eq, z_in, nI_toInt, z_cl, z_m1, z_sg, z_255, Int32.reduceToInt] <;> omega) | (simp only [Int32.le_iff_toInt_le, Int32.lt_iff_toInt_lt, z_eq, z_in, z_add, z_sub, z_mul, z_neg, z_nI, z_cl, z_sg, z_255, z_lit, Int32.reduceToInt] <;> omega))) (f2 x post kb nb hK hC h hp hk hn p))
/-- the widths, then the parts -/
theorem k_widthsL (hs : SnkId s) (hr : r < 152) (hm : m ≤ 2000) (hl : last + 1 ≤ m) (hal : a < last) : ∀ c q f κ B, q + c = 4 → c < f → (∀ t, SnkId t → κ t ≤ roomOf t) → AppW κ s B (wdsF V l last c (a + 16 * q) ++ prtF V l last 4 a) (fun x => RwL x r V m ∧ WdC x s V l last a q) (fun post kb nb x => wl_Snk_putBlock_56 post f s r (nI (a + 1)) (nI (last + 1)) l (nI q) kb nb x) := by
  intro c
  induction c with
  | zero =>
    intro q f κ B hq hf hκ
    obtain ⟨f, rfl⟩ : ∃ e, f = e + 1 := ⟨f - 1, by omega⟩
    have e : q = 4 := by omega
    subst e
    obtain ⟨κ1, m1, f1⟩ := k_partsL (V := V) (l := l) (a := a) hs hr hm hl hal 4 0 5 κ B (by omega) (by omega) hκ
    refine ⟨κ1, m1, fun x post kb nb hK hC h hp hk hn p => ?_⟩
    show j_Snk_putBlock_56 post _ s r _ _ _ _ kb nb x
    unfold j_Snk_putBlock_56
    exact br_t (by decide) ⟨5, f1 x post kb nb hK hC h hp hk hn (fun y y1 y2 y3 y4 => p y y1 y2 (y3.w hs) y4)⟩
  | succ c ih =>
    intro q f κ B hq hf hκ
    obtain ⟨f, rfl⟩ : ∃ e, f = e + 1 := ⟨f - 1, by omega⟩
    have hwp := @wP_le V l last (a + 16 * q)
    have wr := wRow s hs
    obtain ⟨κ1, m1, f1⟩ := k_put (κ := κ) (s := s) (b := wP V l last (a + 16 * q)) (B := B) (w := nI (wP V l last (a + 16 * q))) (Pre := fun x => RwL x r V m ∧ WdC x s V l last a (q + 1)) hs hκ (by omega) rfl
    obtain ⟨κ2, m2, f2⟩ := ih (q + 1) f κ1 (B ++ [wP V l last (a + 16 * q)]) (by omega) (by omega) (fun t ht => (m1 t ht).2)
    refine ⟨κ2, m1.trans m2, fun x post kb nb hK hC h hp hk hn p => ?_⟩
    show j_Snk_putBlock_56 post _ s r _ _ _ _ kb nb x
    unfold j_Snk_putBlock_56
    have e16 : nI (a + 1) + 16 * nI q = nI (a + 1 + 16 * q) := by rw [show (16 : Int32) = nI 16 from rfl, nI_mul, nI_add]
    rw [e16, show (16 : Int32) = nI 16 from rfl, nI_add, nI_min (by omega) (by omega)]
    refine br_f (by (first | omega | (simp (disch := omega) only [Int32.le_iff_toInt_le, Int32.lt_iff_toInt_lt, z_eq, z_in, nI_toInt, z_cl, z_m1, z_sg, z_255, Int32.reduceToInt] <;> omega) | (simp only [Int32.le_iff_toInt_le, Int32.lt_iff_toInt_lt, z_eq, z_in, z_add, z_sub, z_mul, z_neg, z_nI, z_cl, z_sg, z_255, z_lit, Int32.reduceToInt] <;> omega))) (nm_e (nm_e ?_))
    refine lp_Snk_putBlock_90 (fun o l1 l2 l3 l4 l6 l7 l9 l10 kb' nb' y => s = o ∧ r = l1 ∧ nI (a + 1) = l2 ∧ nI (last + 1) = l3 ∧ l = l4 ∧ nI q = l6 ∧ nI (min (last + 1) (a + 1 + 16 * q + 16)) = l9 ∧ kb = kb' ∧ nb = nb' ∧ x = y ∧ ∃ e, nI (a + 1 + 16 * q + e) = l10 ∧ e ≤ min 16 (last - (a + 16 * q)) ∧ bl (uL l7) = wdM V l (a + 16 * q) e) (fun _ _ _ _ _ _ _ _ l10 _ _ _ => 10000 - l10.toNatClampNeg) ?_ _ _ _ _ _ _ _ _ _ _ _ _ ⟨rfl, rfl, rfl, rfl, rfl, rfl, rfl, rfl, rfl, rfl, 0, rfl, Nat.zero_le _, rfl⟩
    rintro Q o l1 l2 l3 l4 l6 l7 l9 l10 kb' nb' y ⟨rfl, rfl, rfl, rfl, rfl, rfl, rfl, rfl, rfl, rfl, e, rfl, c1, c2⟩ ih2
    unfold j_Snk_putBlock_90
    by_cases cc : e < min 16 (last - (a + 16 * q))
    · have l1' := hp.1.1
      have e2 : a + 1 + 16 * q + e - 1 = a + 16 * q + e := by omega
      have e3 : a + 1 + 16 * q + e = (a + 16 * q + e) + 1 := by omega
      rw [nI_1 (a + 1 + 16 * q + e), show (1 : Int32) = nI 1 from rfl, nI_sub (by omega), rL_nI (by omega), rL_nI (by omega), hp.1.2.2 _ (by omega), hp.1.2.2 _ (by omega)]
      refine br_f (by (first | omega | (simp (disch := omega) only [Int32.le_iff_toInt_le, Int32.lt_iff_toInt_lt, z_eq, z_in, nI_toInt, z_cl, z_m1, z_sg, z_255, Int32.reduceToInt] <;> omega) | (simp only [Int32.le_iff_toInt_le, Int32.lt_iff_toInt_lt, z_eq, z_in, z_add, z_sub, z_mul, z_neg, z_nI, z_cl, z_sg, z_255, z_lit, Int32.reduceToInt] <;> omega))) ⟨vp_in_nI (by omega) hp.1.2.1, vp_in_nI (by omega) hp.1.2.1, nm_e ?_⟩
      refine ih2 _ _ _ _ _ _ _ _ _ _ _ _ ⟨rfl, rfl, rfl, rfl, rfl, rfl, rfl, rfl, rfl, rfl, e + 1, rfl, by omega, ?_⟩ ?_
      · rw [uL_or, bl_or, c2, e2, e3]; rfl
      · rw [nI_clamp (by omega), nI_clamp (by omega)]; omega
    · have ec : e = min 16 (last - (a + 16 * q)) := by omega
      have ew : bl (uL l7) = wP V l last (a + 16 * q) := by rw [c2, ec]; rfl
      refine br_t (by (first | omega | (simp (disch := omega) only [Int32.le_iff_toInt_le, Int32.lt_iff_toInt_lt, z_eq, z_in, nI_toInt, z_cl, z_m1, z_sg, z_255, Int32.reduceToInt] <;> omega) | (simp only [Int32.le_iff_toInt_le, Int32.lt_iff_toInt_lt, z_eq, z_in, z_add, z_sub, z_mul, z_neg, z_nI, z_cl, z_sg, z_255, z_lit, Int32.reduceToInt] <;> omega))) (c_widthOf ?_)
      rw [ew, hp.2.1]
      have hw1 : vp_in (nI q) 4 := vp_in_nI (by omega) (by decide)
      refine ⟨hw1, nm_e ⟨?_, ?_⟩⟩
      · show vp_in (nI q) (fN x (stC s 4))
        rw [hp.2.1]; exact hw1
      · rw [rA_nI (by omega), gA_at, nI_clamp (by omega), upd_at]
        have fA1 : FKw s x (setA x (stC s 4) (nI q) (nI (wP V l last (a + 16 * q)))) := FKw.a
        have wd1 : WdC (setA x (stC s 4) (nI q) (nI (wP V l last (a + 16 * q)))) s V l last a (q + 1) := by
          refine ⟨hp.2.1, fun i hi => ?_⟩
          rw [gA_at, nI_clamp (by omega)]
          by_cases e : i = q
          · rw [e, upd_at]
          · rw [upd_ne e]; exact hp.2.2 i (by omega)
        refine bseq m1 m2 hk hn (fun k1 n1 k2 n2 b1 b2 b3 b4 => f1 _ _ k1 n1 (setA_sk hK wr.2.1) hC (setA_snk hK hs wr.2.1 h) ⟨hp.1.w hr fA1, wd1⟩ b1 b2 (fun y y1 y2 y3 y4 => ?_))
        rw [nI_1]
        refine f2 y post k2 n2 y1 y2 y4 ⟨RwL.k hr _ y (setA_sk hK wr.2.1) y3 (hp.1.w hr fA1), wd1.k hs (setA_sk hK wr.2.1) y3⟩ b3 b4 (fun z z1 z2 z3 z4 => p z z1 z2 (FKw.trans hs fA1 (FKw.trans hs (y3.w hs) z3)) ?_)
        show Snk z s (B ++ (wP V l last (a + 16 * q) :: wdsF V l last c (a + 16 * q + 16) ++ prtF V l last 4 a))
        rw [Nat.mul_succ, ← Nat.add_assoc, List.append_assoc] at z4
        exact z4
/-- one block -/
theorem k_block {κ : Nat → Nat} {B : List Nat} (hs : SnkId s) (hr : r < 152) (hm : m ≤ 2000) (hl : last + 1 ≤ m) (ha : a < last) (hκ : ∀ t, SnkId t → κ t ≤ roomOf t) : AppW κ s B (blkB V a last) (fun x => RwL x r V m ∧ fN x (stC s 4) = 4) (fun post kb nb x => wp_Snk_putBlock post s r (nI (a + 1)) (nI (last + 1)) kb nb x) := by
  have st : ∀ x y, SkS x → FK s x y → RwL x r V m ∧ fN x (stC s 4) = 4 → RwL y r V m ∧ fN y (stC s 4) = 4 := fun x y hK f z => ⟨RwL.k hr x y hK f z.1, by rw [(wKeep hs hK f).2]; exact z.2⟩
  obtain ⟨κ1, m1, f1⟩ := k_varint (κ := κ) (s := s) (B := B) (v := zg (lsF V a (last - a))) (Pre := fun x => RwL x r V m ∧ fN x (stC s 4) = 4) hs st hκ
  obtain ⟨κ2, m2, f2⟩ := k_widthsL (V := V) (l := lsF V a (last - a)) (a := a) hs hr hm hl ha 4 0 5 κ1 (B ++ varB (uL (zg (lsF V a (last - a))))) (by omega) (by omega) (fun t ht => (m1 t ht).2)
  refine ⟨κ2, m1.trans m2, fun x post kb nb hK hC h hp hk hn p => ?_⟩
  show wp_Snk_putBlock post s r (nI (a + 1)) (nI (last + 1)) kb nb x
  unfold wp_Snk_putBlock
  have l1' := hp.1.1
  rw [show (1 : Int32) = nI 1 from rfl, nI_sub (by omega), rL_nI (by omega), rL_nI (by omega), hp.1.2.2 _ (by omega), hp.1.2.2 _ (by omega)]
  refine ⟨vp_in_nI (by omega) hp.1.2.1, vp_in_nI (by omega) hp.1.2.1, nm_e ?_⟩
  refine lp_Snk_putBlock_14 (fun o l1 l2 l3 l4 l6 kb' nb' y => s = o ∧ r = l1 ∧ nI (a + 1) = l2 ∧ nI (last + 1) = l3 ∧ kb = kb' ∧ nb = nb' ∧ x = y ∧ ∃ e, nI (a + 1 + e) = l6 ∧ e ≤ last - a ∧ lsF V a e = l4) (fun _ _ _ _ _ l6 _ _ _ => 10000 - l6.toNatClampNeg) ?_ _ _ _ _ _ _ _ _ _ ⟨rfl, rfl, rfl, rfl, rfl, rfl, rfl, 0, rfl, Nat.zero_le _, rfl⟩
  rintro Q o l1 l2 l3 l4 l6 kb' nb' y ⟨rfl, rfl, rfl, rfl, rfl, rfl, rfl, e, rfl, e1, rfl⟩ ih
  unfold j_Snk_putBlock_14
  by_cases cc : e < last - a
  · have e2 : a + 1 + e - 1 = a + e := by omega
    have e3 : a + 1 + e = (a + e) + 1 := by omega
    rw [nI_1 (a + 1 + e), show (1 : Int32) = nI 1 from rfl, nI_sub (by omega), rL_nI (by omega), rL_nI (by omega), hp.1.2.2 _ (by omega), hp.1.2.2 _ (by omega)]
    refine br_f (by (first | omega | (simp (disch := omega) only [Int32.le_iff_toInt_le, Int32.lt_iff_toInt_lt, z_eq, z_in, nI_toInt, z_cl, z_m1, z_sg, z_255, Int32.reduceToInt] <;> omega) | (simp only [Int32.le_iff_toInt_le, Int32.lt_iff_toInt_lt, z_eq, z_in, z_add, z_sub, z_mul, z_neg, z_nI, z_cl, z_sg, z_255, z_lit, Int32.reduceToInt] <;> omega))) ⟨vp_in_nI (by omega) hp.1.2.1, vp_in_nI (by omega) hp.1.2.1, nm_e ?_⟩
    refine ih _ _ _ _ _ _ _ _ _ ⟨rfl, rfl, rfl, rfl, rfl, rfl, rfl, e + 1, rfl, by omega, ?_⟩ ?_
    · rw [e2, e3]; rfl
    · rw [nI_clamp (by omega), nI_clamp (by omega)]; omega
  · have ee : e = last - a := by omega
    subst ee
    refine br_t (by (first | omega | (simp (disch := omega) only [Int32.le_iff_toInt_le, Int32.lt_iff_toInt_lt, z_eq, z_in, nI_toInt, z_cl, z_m1, z_sg, z_255, Int32.reduceToInt] <;> omega) | (simp only [Int32.le_iff_toInt_le, Int32.lt_iff_toInt_lt, z_eq, z_in, z_add, z_sub, z_mul, z_neg, z_nI, z_cl, z_sg, z_255, z_lit, Int32.reduceToInt] <;> omega))) (c_zigzag (bseq m1 m2 hk hn (fun k1 n1 k2 n2 b1 b2 b3 b4 => f1 x _ k1 n1 hK hC h hp b1 b2 (fun y y1 y2 y3 y4 => ⟨5, f2 y post k2 n2 y1 y2 y4 ⟨(st x y hK y3 hp).1, (st x y hK y3 hp).2, fun i hi => absurd hi (Nat.not_lt_zero i)⟩ b3 b4 (fun z z1 z2 z3 z4 => p z z1 z2 (FKw.trans hs (y3.w hs) z3) ?_)⟩))))
    rw [List.append_assoc] at z4
    exact z4
theorem k_codeL {n : Nat} (hs : SnkId s) (hr : r < 152) (hm : n ≤ 2000) : ∀ d a f κ B, n ≤ a + 1 + d → a ≤ n + 64 → d < f → (∀ t, SnkId t → κ t ≤ roomOf t) → AppW κ s B (codF V n d a) (fun x => RwL x r V n ∧ fN x (stC s 4) = 4) (fun post kb nb x => wl_Snk_putCode_22 post f s r (nI n) (nI (a + 1)) kb nb x) := by
  intro d
  induction d with
  | zero =>
    intro a f κ B h1 h2 h3 hκ
    obtain ⟨f, rfl⟩ : ∃ e, f = e + 1 := ⟨f - 1, by omega⟩
    refine ⟨κ, Kle.refl hκ, fun x post kb nb hK hC h hp hk hn p => ?_⟩
    show j_Snk_putCode_22 post _ s r _ _ kb nb x
    unfold j_Snk_putCode_22
    exact br_t (by (first | omega | (simp (disch := omega) only [Int32.le_iff_toInt_le, Int32.lt_iff_toInt_lt, z_eq, z_in, nI_toInt, z_cl, z_m1, z_sg, z_255, Int32.reduceToInt] <;> omega) | (simp only [Int32.le_iff_toInt_le, Int32.lt_iff_toInt_lt, z_eq, z_in, z_add, z_sub, z_mul, z_neg, z_nI, z_cl, z_sg, z_255, z_lit, Int32.reduceToInt] <;> omega))) (p x hK hC (FX.refl x) (by show Snk x s (B ++ []); rw [List.append_nil]; exact h))
  | succ d ih =>
    intro a f κ B h1 h2 h3 hκ
    obtain ⟨f, rfl⟩ : ∃ e, f = e + 1 := ⟨f - 1, by omega⟩
    simp only [codF]
    by_cases c : n ≤ a + 1
    · rw [if_pos c]
      refine ⟨κ, Kle.refl hκ, fun x post kb nb hK hC h hp hk hn p => ?_⟩
      show j_Snk_putCode_22 post _ s r _ _ kb nb x
      unfold j_Snk_putCode_22
      exact br_t (by (first | omega | (simp (disch := omega) only [Int32.le_iff_toInt_le, Int32.lt_iff_toInt_lt, z_eq, z_in, nI_toInt, z_cl, z_m1, z_sg, z_255, Int32.reduceToInt] <;> omega) | (simp only [Int32.le_iff_toInt_le, Int32.lt_iff_toInt_lt, z_eq, z_in, z_add, z_sub, z_mul, z_neg, z_nI, z_cl, z_sg, z_255, z_lit, Int32.reduceToInt] <;> omega))) (p x hK hC (FX.refl x) (by show Snk x s (B ++ []); rw [List.append_nil]; exact h))
    · rw [if_neg c]
      have hlast : min (a + 64) (n - 1) + 1 ≤ n := by omega
      obtain ⟨κ1, m1, f1⟩ := k_block (V := V) (κ := κ) (B := B) hs hr hm hlast (by omega : a < min (a + 64) (n - 1)) hκ
      obtain ⟨κ2, m2, f2⟩ := ih (a + 64) f κ1 (B ++ blkB V a (min (a + 64) (n - 1))) (by omega) (by omega) (by omega) (fun t ht => (m1 t ht).2)
      refine ⟨κ2, m1.trans m2, fun x post kb nb hK hC h hp hk hn p => ?_⟩
      show j_Snk_putCode_22 post _ s r _ _ kb nb x
      unfold j_Snk_putCode_22
      rw [show (64 : Int32) = nI 64 from rfl, nI_add, nI_min (by omega) (by omega), show min n (a + 1 + 64) = min (a + 64) (n - 1) + 1 by omega]
      refine br_f (by (first | omega | (simp (disch := omega) only [Int32.le_iff_toInt_le, Int32.lt_iff_toInt_lt, z_eq, z_in, nI_toInt, z_cl, z_m1, z_sg, z_255, Int32.reduceToInt] <;> omega) | (simp only [Int32.le_iff_toInt_le, Int32.lt_iff_toInt_lt, z_eq, z_in, z_add, z_sub, z_mul, z_neg, z_nI, z_cl, z_sg, z_255, z_lit, Int32.reduceToInt] <;> omega))) (bseq m1 m2 hk hn (fun k1 n1 k2 n2 b1 b2 b3 b4 => f1 x _ k1 n1 hK hC h hp b1 b2 (fun y y1 y2 y3 y4 => ?_)))
      rw [show a + 1 + 64 = a + 64 + 1 by omega]
      refine f2 y post k2 n2 y1 y2 y4 ⟨hp.1.w hr y3, ?_⟩ b3 b4 (fun z z1 z2 z3 z4 => p z z1 z2 (FKw.trans hs y3 z3) (by rw [← List.append_assoc]; exact z4))
      rw [show fN y (stC s 4) = fN x (stC s 4) from y3.2.2.2.2.2.1 _ (wRow s hs).1]
      exact hp.2
theorem k_code {κ : Nat → Nat} {n : Nat} {B : List Nat} (hs : SnkId s) (hr : r < 152) (hm : n ≤ 2000) (hκ : ∀ t, SnkId t → κ t ≤ roomOf t) : AppW κ s B (codeB V n) (fun x => RwL x r V n ∧ fN x (stC s 4) = 4) (fun post kb nb x => wp_Snk_putCode post s r (nI n) kb nb x) := by
  have st : ∀ x y, SkS x → FK s x y → RwL x r V n ∧ fN x (stC s 4) = 4 → RwL y r V n ∧ fN y (stC s 4) = 4 := fun x y hK f z => ⟨RwL.k hr x y hK f z.1, by rw [(wKeep hs hK f).2]; exact z.2⟩
  have em : (nI n).toInt64 = lN n := nI_l (by omega)
  obtain ⟨κ1, m1, f1⟩ := k_varint (κ := κ) (s := s) (B := B) (v := lN n) (Pre := fun x => RwL x r V n ∧ fN x (stC s 4) = 4) hs st hκ
  rw [uL_lN (by omega)] at f1
  by_cases c : n = 0
  · subst c
    obtain ⟨κ2, m2, f2⟩ := k_codeL (V := V) (n := 0) hs hr hm 0 0 1 κ1 (B ++ varB 0) (by omega) (by omega) (by omega) (fun t ht => (m1 t ht).2)
    refine ⟨κ2, m1.trans m2, fun x post kb nb hK hC h hp hk hn p => ?_⟩
    show wp_Snk_putCode post s r (nI _) kb nb x
    unfold wp_Snk_putCode j_Snk_putCode_20
    rw [em]
    refine bseq m1 m2 hk hn (fun k1 n1 k2 n2 b1 b2 b3 b4 => f1 x _ k1 n1 hK hC h hp b1 b2 (fun y y1 y2 y3 y4 => br_t (by decide) ⟨1, f2 y post k2 n2 y1 y2 y4 (st x y hK y3 hp) b3 b4 (fun z z1 z2 z3 z4 => p z z1 z2 (FKw.trans hs (y3.w hs) z3) ?_)⟩))
    rw [List.append_assoc] at z4
    exact z4
  · obtain ⟨κ2, m2, f2⟩ := k_varint (κ := κ1) (s := s) (B := B ++ varB n) (v := zg (V 0)) (Pre := fun x => RwL x r V n ∧ fN x (stC s 4) = 4) hs st (fun t ht => (m1 t ht).2)
    obtain ⟨κ3, m3, f3⟩ := k_codeL (V := V) (n := n) hs hr hm n 0 (n + 1) κ2 (B ++ varB n ++ varB (uL (zg (V 0)))) (by omega) (by omega) (by omega) (fun t ht => (m2 t ht).2)
    refine ⟨κ3, m1.trans (m2.trans m3), fun x post kb nb hK hC h hp hk hn p => ?_⟩
    show wp_Snk_putCode post s r (nI _) kb nb x
    unfold wp_Snk_putCode j_Snk_putCode_20
    rw [em]
    refine bseq m1 (m2.trans m3) hk hn (fun k1 n1 k2 n2 b1 b2 b3 b4 => f1 x _ k1 n1 hK hC h hp b1 b2 (fun y y1 y2 y3 y4 => br_f (by (first | omega | (simp (disch := omega) only [Int32.le_iff_toInt_le, Int32.lt_iff_toInt_lt, z_eq, z_in, nI_toInt, z_cl, z_m1, z_sg, z_255, Int32.reduceToInt] <;> omega) | (simp only [Int32.le_iff_toInt_le, Int32.lt_iff_toInt_lt, z_eq, z_in, z_add, z_sub, z_mul, z_neg, z_nI, z_cl, z_sg, z_255, z_lit, Int32.reduceToInt] <;> omega))) ⟨?_, ?_⟩))
    · have := (st x y hK y3 hp).1
      exact vp_in_nI (n := 0) (by have := this.1; omega) this.2.1
    · have hy := st x y hK y3 hp
      rw [show rL y r 0 = V 0 from hy.1.2.2 0 (by omega)]
      refine c_zigzag (bseq m2 m3 b3 b4 (fun k3 n3 k4 n4 c1 c2 c3 c4 => f2 y _ k3 n3 y1 y2 y4 hy c1 c2 (fun z z1 z2 z3 z4 => ⟨n + 1, f3 z post k4 n4 z1 z2 z4 (st y z y1 z3 hy) c3 c4 (fun w w1 w2 w3 w4 => p w w1 w2 (FKw.trans hs (y3.w hs) (FKw.trans hs (z3.w hs) w3)) ?_)⟩)))
      unfold codeB
      rw [if_neg c]
      simp only [List.append_assoc] at w4 ⊢
      exact w4
end Blk
