/-! the Opener reads values: BITS, PLAIN -/
def VsC (x : St) (r a b ty : Nat) (P : List PV) : Prop := ∀ k, k < P.length → RfP x b ty (fL x r (a + k)) (pvd P k)
def plR (T : Nat → Nat) (ty st d : Nat) (acc : List PV) (q : Nat) : Rd (List PV) := if ty = 3 then ptxF T st d acc q else wplF T ty st d acc q
theorem nI_a1 (m : Nat) : nI m &&& 1 = nI (m % 2) := by
  apply Int32.toBitVec_inj.mp
  rw [Int32.toBitVec_and]
  apply BitVec.eq_of_toNat_eq
  rw [BitVec.toNat_and, show (nI m).toBitVec = BitVec.ofNat 32 m from rfl, show (1 : Int32).toBitVec = BitVec.ofNat 32 1 from rfl, show (nI (m % 2)).toBitVec = BitVec.ofNat 32 (m % 2) from rfl, BitVec.toNat_ofNat, BitVec.toNat_ofNat, BitVec.toNat_ofNat, show 1 % 2 ^ 32 = 2 ^ 1 - 1 from rfl, Nat.and_two_pow_sub_one_eq_mod]
  omega
theorem k_size {post : Int32 → St → Prop} {x : St} {v : Int64} {m : Int32} (e : ((v &&& 255) : Int64).toInt32 = m) (k : post m x) : wp_V_sizeOf post v x := by
  unfold wp_V_sizeOf
  rw [e]
  exact k
theorem k_plc {post : Int32 → St → Prop} {x : St} {v : Int64} {m : Int32} (e : ((v >>> ((8 : Int32).toInt64 &&& 63)) : Int64).toInt32 = m) (k : post m x) : wp_V_placeOf post v x := by
  unfold wp_V_placeOf
  rw [e]
  exact k
theorem k_refc {post : Int64 → St → Prop} {x : St} {a m : Nat} (ha : a < 2 ^ 31) (hm : m < 2 ^ 31) (k : post (lN (256 * a + m)) x) : wp_V_reference post (nI a) (nI m) x := by
  unfold wp_V_reference
  rw [nI_l ha, nI_l hm, show (256 : Int64) = lN 256 from rfl, lN_mul, lN_add, Nat.mul_comm a]
  exact k
section
variable {x : St} {T : Nat → Nat} {n st p : Nat}
theorem so4 : SrO 104 := Or.inr rfl
theorem so2 : SrO 102 := Or.inl rfl
theorem b8_iff {m : Nat} (hT : ∀ i, T i < 256) : (∃ j, j < 8 * ((m + 7) / 8) ∧ m ≤ j ∧ btN T p j = 1) ↔ ¬ (m % 8 = 0 ∨ T (p + m / 8) / 2 ^ (m % 8) = 0) := by
  by_cases c0 : m % 8 = 0
  · constructor
    · rintro ⟨j, h1, h2, -⟩; omega
    · intro h; exact absurd (Or.inl c0) h
  · have e := bs_part (T := T) (q := p) (m := m) (8 - m % 8) (by omega)
    have lt : T (p + m / 8) / 2 ^ (m % 8) < 2 ^ (8 - m % 8) := by
      rw [Nat.div_lt_iff_lt_mul (Nat.pow_pos (by decide)), ← Nat.pow_add, show 8 - m % 8 + m % 8 = 8 by omega]
      exact hT _
    rw [Nat.mod_eq_of_lt lt] at e
    rw [← e, bs_zero]
    constructor
    · rintro ⟨j, h1, h2, h3⟩ h
      rcases h with h | h
      · exact c0 h
      · have := h (j - m) (by omega)
        rw [show m + (j - m) = j by omega] at this
        omega
    · intro h
      have h' : ¬ ∀ i, i < 8 - m % 8 → btN T p (m + i) = 0 := fun z => h (Or.inr z)
      obtain ⟨i, hi⟩ := Classical.not_forall.mp h'
      have i1 : i < 8 - m % 8 := Classical.byContradiction (fun z => hi (fun w => absurd w z))
      have i2 : btN T p (m + i) ≠ 0 := fun z => hi (fun _ => z)
      have := btN_le (T := T) p (m + i)
      exact ⟨m + i, by omega, by omega, by omega⟩
theorem k_bl0 {post : St → Prop} {m : Nat} {how : Int32} (S : Sr 104 x T n p st) (hm : m ≤ 2000) (hv : fI x 96 9 = nI m) (hh : ¬ how = 1)
    (pe : ∀ e y, bl0 T m st p = .error e → FrSL 104 101 x y → FlC 104 y e → post y)
    (pk : ∀ P q y, bl0 T m st p = .ok (P, q) → FrSL 104 101 x y → Sr 104 y T n q st → VsC y 101 0 40000 0 P → post y) : wp_Opn_readBools post 96 how x := by
  have hS := S.le
  have hT := S.t
  have L101 : fN x 101 = 2000 := S.1.1 101 (by decide)
  unfold wp_Opn_readBools
  refine bn_f hh ?_
  refine lp_Opn_readBools_26 (fun a0 a1 a2 a3 y => 96 = a0 ∧ FrSL 104 101 x y ∧ ∃ k, nI k = a3 ∧ k ≤ m ∧ ((FlC 104 y 1 ∧ st < p + (m + 7) / 8) ∨ Sr 104 y T n (p + (k + 7) / 8) st ∧ a2 = nI (if k % 8 = 0 then 0 else T (p + k / 8) / 2 ^ (k % 8)) ∧ ∀ j, j < k → fL y 101 j = lN (btN T p j))) (fun _ _ _ a3 _ => m - a3.toNatClampNeg) ?_ _ _ _ _ _ ⟨rfl, Fg.refl x, 0, rfl, Nat.zero_le _, Or.inr ⟨S, rfl, fun j hj => absurd hj (Nat.not_lt_zero _)⟩⟩
  rintro Q a0 a1 a2 a3 y ⟨rfl, y1, k, rfl, k1, y2⟩ ih
  have ev : fI y 96 9 = nI m := (y1.ii (by decide)).trans hv
  have ly : fN y 101 = 2000 := (y1.len 101).trans L101
  unfold j_Opn_readBools_26 j_Opn_readBools_49 j_Opn_readBools_82
  rw [show stC 96 8 = 101 from rfl, show stC 96 2 = 104 from rfl, ev, nI_a7]
  rcases y2 with ⟨f1, f2⟩ | ⟨Sy, y3, y4⟩
  · have er : bl0 T m st p = .error 1 := if_pos f2
    by_cases ck : k < m
    · refine br_f (by (first | omega | (simp (disch := omega) only [Int32.le_iff_toInt_le, Int32.lt_iff_toInt_lt, z_eq, z_in, nI_toInt, z_cl, z_m1, z_sg, z_255, Int32.reduceToInt] <;> omega) | (simp only [Int32.le_iff_toInt_le, Int32.lt_iff_toInt_lt, z_eq, z_in, z_add, z_sub, z_mul, z_neg, z_nI, z_cl, z_sg, z_255, z_lit, Int32.reduceToInt] <;> omega))) ?_
      have nx : ∀ v, (vp_in (nI k) (fN y 101) ∧ ∀ x2 : St, x2 = setL y 101 (nI k) ((v &&& 1) : Int32).toInt64 → (∀ v3 : Int32, v3 = (v >>> ((1 : Int32) &&& 31)) → Q 96 a1 v3 (nI k + 1) x2)) := fun v => by
        refine ⟨by rw [ly]; exact vp_in_nI (by omega) (by decide), nm_e (nm_e ?_)⟩
        rw [nI_1]
        exact ih _ _ _ _ _ ⟨rfl, Fg.trans y1 (Fg.l rfl), k + 1, rfl, ck, Or.inl ⟨f1, f2⟩⟩ (by rw [nI_clamp (by omega), nI_clamp (by omega)]; omega)
      exact ⟨fun _ => nx _, fun _ => k_byte0 f1.ne (nx _)⟩
    · refine br_t (by (first | omega | (simp (disch := omega) only [Int32.le_iff_toInt_le, Int32.lt_iff_toInt_lt, z_eq, z_in, nI_toInt, z_cl, z_m1, z_sg, z_255, Int32.reduceToInt] <;> omega) | (simp only [Int32.le_iff_toInt_le, Int32.lt_iff_toInt_lt, z_eq, z_in, z_add, z_sub, z_mul, z_neg, z_nI, z_cl, z_sg, z_255, z_lit, Int32.reduceToInt] <;> omega))) ⟨fun _ => k_ckf f1.ne (pe 1 y er y1 f1), fun _ => k_ckf f1.ne (pe 1 y er y1 f1)⟩
  · have hSy := Sy.le
    by_cases ck : k < m
    · refine br_f (by (first | omega | (simp (disch := omega) only [Int32.le_iff_toInt_le, Int32.lt_iff_toInt_lt, z_eq, z_in, nI_toInt, z_cl, z_m1, z_sg, z_255, Int32.reduceToInt] <;> omega) | (simp only [Int32.le_iff_toInt_le, Int32.lt_iff_toInt_lt, z_eq, z_in, z_add, z_sub, z_mul, z_neg, z_nI, z_cl, z_sg, z_255, z_lit, Int32.reduceToInt] <;> omega))) ?_
      have nx : ∀ z, FrSL 104 101 x z → Sr 104 z T n (p + (k + 1 + 7) / 8) st → (∀ j, j < k → fL z 101 j = lN (btN T p j)) → (vp_in (nI k) (fN z 101) ∧ ∀ x2 : St, x2 = setL z 101 (nI k) ((nI (T (p + k / 8) / 2 ^ (k % 8)) &&& 1) : Int32).toInt64 → (∀ v3 : Int32, v3 = (nI (T (p + k / 8) / 2 ^ (k % 8)) >>> ((1 : Int32) &&& 31)) → Q 96 a1 v3 (nI k + 1) x2)) := fun z z1 Sz z3 => by
        have ht := hT (p + k / 8)
        have t2 : T (p + k / 8) / 2 ^ (k % 8) < 256 := Nat.lt_of_le_of_lt (Nat.div_le_self _ _) ht
        refine ⟨by rw [z1.len 101, L101]; exact vp_in_nI (by omega) (by decide), nm_e (nm_r (e' := nI (if (k + 1) % 8 = 0 then 0 else T (p + (k + 1) / 8) / 2 ^ ((k + 1) % 8))) ?_ ?_)⟩
        · rw [show ((1 : Int32) &&& 31) = (nI 1 &&& 31) from rfl, by_sr _ t2 1 (by decide), Nat.div_div_eq_div_mul, ← Nat.pow_add]
          by_cases c7 : k % 8 = 7
          · rw [if_pos (by omega), c7]
            congr 1
            exact Nat.div_eq_of_lt ht
          · rw [if_neg (by omega), show (k + 1) / 8 = k / 8 by omega, show (k + 1) % 8 = k % 8 + 1 by omega]
        · rw [nI_1]
          refine ih _ _ _ _ _ ⟨rfl, Fg.trans z1 (Fg.l rfl), k + 1, rfl, ck, Or.inr ⟨Sz.cg (Fg.l (L := fun a => a = 101) (I := no2) (J := no2) (R := no2) (A := no1) rfl) id id id id, rfl, fun j hj => ?_⟩⟩ (by rw [nI_clamp (by omega), nI_clamp (by omega)]; omega)
          rw [gL_at, nI_clamp (by omega)]
          by_cases e : j = k
          · rw [e, updL_at, nI_a1, nI_l (by omega)]
            rfl
          · rw [updL_ne e, z3 j (by omega)]
      by_cases c8 : k % 8 = 0
      · refine bn_t (by rw [c8]; rfl) ?_
        rw [show p + (k + 7) / 8 = p + k / 8 by omega] at Sy
        refine r_byte so4 Sy (fun e z z1 z2 z3 => ?_) (fun z z1 z2 Sz z3 => ?_)
        · have ce : e = 1 ∧ st ≤ p + k / 8 := by
            unfold fxd at z1
            by_cases c : st < p + k / 8 + 1
            · rw [if_pos c] at z1; cases z1; exact ⟨rfl, by omega⟩
            · rw [if_neg c] at z1; cases z1
          refine ⟨by rw [z2.len 101, ly]; exact vp_in_nI (by omega) (by decide), nm_e (nm_e ?_)⟩
          rw [nI_1]
          refine ih _ _ _ _ _ ⟨rfl, Fg.trans (Fg.trans y1 (FrSr.sl z2)) (Fg.l rfl), k + 1, rfl, ck, Or.inl ⟨?_, by omega⟩⟩ (by rw [nI_clamp (by omega), nI_clamp (by omega)]; omega)
          rw [ce.1] at z3
          exact z3
        · have := nx z (Fg.trans y1 (FrSr.sl z2)) (by rw [show p + (k + 1 + 7) / 8 = p + k / 8 + 1 by omega]; exact Sz) (fun j hj => by rw [z2.ll id]; exact y4 j hj)
          rw [c8, Nat.pow_zero, Nat.div_one] at this
          exact this
      · refine bn_f (fun z => c8 (nI_inj (b := 0) (by omega) (by decide) z)) ?_
        rw [y3, if_neg c8]
        exact nx y y1 (by rw [show p + (k + 1 + 7) / 8 = p + (k + 7) / 8 by omega]; exact Sy) y4
    · have ek : k = m := by omega
      subst ek
      refine br_t (by (first | omega | (simp (disch := omega) only [Int32.le_iff_toInt_le, Int32.lt_iff_toInt_lt, z_eq, z_in, nI_toInt, z_cl, z_m1, z_sg, z_255, Int32.reduceToInt] <;> omega) | (simp only [Int32.le_iff_toInt_le, Int32.lt_iff_toInt_lt, z_eq, z_in, z_add, z_sub, z_mul, z_neg, z_nI, z_cl, z_sg, z_255, z_lit, Int32.reduceToInt] <;> omega))) ?_
      have bi := b8_iff (p := p) (m := k) hT
      have eb : bl0 T k st p = (if ∃ j, j < 8 * ((k + 7) / 8) ∧ k ≤ j ∧ btN T p j = 1 then .error 5 else .ok ((List.range k).map (fun j => (lN (btN T p j), [])), p + (k + 7) / 8)) := by unfold bl0; rw [if_neg (by omega)]
      have ht := hT (p + k / 8)
      have t2 : T (p + k / 8) / 2 ^ (k % 8) < 256 := Nat.lt_of_le_of_lt (Nat.div_le_self _ _) ht
      by_cases c5 : k % 8 = 0 ∨ T (p + k / 8) / 2 ^ (k % 8) = 0
      · rw [if_neg (fun z => bi.mp z c5)] at eb
        refine bn_t ?_ (k_ck1 (pk _ _ y eb y1 Sy (fun j hj => ?_)))
        · rw [y3]
          rcases c5 with c5 | c5
          · rw [if_pos c5]; rfl
          · rw [c5]; split <;> rfl
        · rw [List.length_map, List.length_range] at hj
          refine ⟨fun _ => ?_, fun z => absurd z (by decide)⟩
          rw [Nat.zero_add, y4 j hj]
          unfold pvd
          rw [List.getD_eq_getElem?_getD, List.getElem?_map, List.getElem?_range hj]
          rfl
      · rw [if_pos (bi.mpr c5)] at eb
        refine bn_f ?_ (r_ck0 5 Sy (by decide) (by decide) (fun z z1 z2 => pe 5 z eb (Fg.trans y1 (FrSr.sl z1)) z2))
        rw [y3, if_neg (fun z => c5 (Or.inl z))]
        exact fun z => c5 (Or.inr (nI_inj (b := 0) (by omega) (by decide) z))
theorem k_bl1 {post : St → Prop} {m : Nat} (S : Sr 104 x T n p st) (hm : m ≤ 2000) (hv : fI x 96 9 = nI m)
    (pe : ∀ e y, rns T m 1 st p = .error e → FrSL 104 101 x y → FlC 104 y e → post y)
    (pk : ∀ L q y, rns T m 1 st p = .ok (L, q) → FrSL 104 101 x y → Sr 104 y T n q st → VsC y 101 0 40000 0 (L.map (fun v => (lN v, []))) → post y) : wp_Opn_readBools post 96 1 x := by
  have L101 : fN x 101 = 2000 := S.1.1 101 (by decide)
  unfold wp_Opn_readBools
  refine bn_t rfl ?_
  rw [hv]
  refine k_rns (r := 101) (w := 1) so4 S (by decide) (by omega) (by omega) pe (fun L q y y1 y2 Sy y3 => pk L q y y1 y2 Sy (fun j hj => ⟨fun _ => ?_, fun z => absurd z (by decide)⟩))
  rw [List.length_map] at hj
  have := (rns_ok S.t y1 S.le.1).1
  rw [Nat.zero_add, y3 j (by omega)]
  unfold pvd
  rw [List.getD_eq_getElem?_getD (l := L.map _), List.getElem?_map, List.getElem?_eq_getElem hj, List.getD_eq_getElem?_getD, List.getElem?_eq_getElem hj]
  rfl
theorem k_plain0 {post : St → Prop} {ty a m : Int32} {r : Nat} (h0 : ¬ fI x 104 3 = 0) (q : post x) : wp_Opn_readPlain post 96 ty r a m x := ⟨1, by
  unfold wl_Opn_readPlain_6 j_Opn_readPlain_6
  exact ⟨fun _ => q, fun _ => ⟨fun _ => q, fun z => absurd z h0⟩⟩⟩
theorem k_plain' {post : St → Prop} {ty r a m b : Nat} (S : Sr 104 x T n p st) (hty : ty = 1 ∨ ty = 2 ∨ ty = 3) (hr : a + m ≤ fN x r) (hr2 : fN x r ≤ 2 ^ 20) (hb : n ≤ b)
    (pe : ∀ e y, plR T ty st m [] p = .error e → FrSL 104 r x y → FlC 104 y e → post y)
    (pk : ∀ W q y, plR T ty st m [] p = .ok (W, q) → FrSL 104 r x y → Sr 104 y T n q st → W.length = m → VsC y r a b ty W → (ty = 3 → oF W W.length ≤ 20000) → (∀ i, i < a → fL y r i = fL x r i) → post y) : wp_Opn_readPlain post 96 (nI ty) r (nI a) (nI m) x := by
  have hS := S.le
  have hT := S.t
  unfold wp_Opn_readPlain
  refine lp_Opn_readPlain_6 (fun a0 a1 a2 a3 a4 a5 a6 y => 96 = a0 ∧ nI ty = a1 ∧ r = a2 ∧ nI a = a3 ∧ nI m = a4 ∧ FrSL 104 r x y ∧ (∀ i, i < a → fL y r i = fL x r i) ∧ ∃ j, nI (a + j) = a6 ∧ j ≤ m ∧ ((∃ e, FlC 104 y e ∧ plR T ty st m [] p = .error e) ∨ ∃ acc q, acc.length = j ∧ (ty = 3 → a5 = nI (oF acc acc.length) ∧ oF acc acc.length ≤ 20000) ∧ Sr 104 y T n q st ∧ VsC y r a b ty acc ∧ plR T ty st m [] p = plR T ty st (m - j) acc q)) (fun _ _ _ _ _ _ a6 _ => a + m - a6.toNatClampNeg) ?_ _ _ _ _ _ _ _ _ ⟨rfl, rfl, rfl, rfl, rfl, Fg.refl x, fun i _ => rfl, 0, rfl, Nat.zero_le _, Or.inr ⟨[], p, rfl, fun _ => ⟨rfl, Nat.zero_le _⟩, S, fun k hk => absurd hk (Nat.not_lt_zero _), rfl⟩⟩
  rintro Q a0 a1 a2 a3 a4 a5 a6 y ⟨rfl, rfl, rfl, rfl, rfl, y1, y2, j, rfl, j1, y3⟩ ih
  have nr := y1.len r
  unfold j_Opn_readPlain_6
  rw [nI_add, show stC 96 2 = 104 from rfl]
  rcases y3 with ⟨e, f1, f2⟩ | ⟨acc, q, q0, q1, Sy, q2, q3⟩
  · exact ⟨fun _ => pe e y f2 y1 f1, fun _ => ⟨fun _ => pe e y f2 y1 f1, fun z => absurd z f1.ne⟩⟩
  · have hSy := Sy.le
    by_cases cj : j < m
    · refine br_f (by (first | omega | (simp (disch := omega) only [Int32.le_iff_toInt_le, Int32.lt_iff_toInt_lt, z_eq, z_in, nI_toInt, z_cl, z_m1, z_sg, z_255, Int32.reduceToInt] <;> omega) | (simp only [Int32.le_iff_toInt_le, Int32.lt_iff_toInt_lt, z_eq, z_in, z_add, z_sub, z_mul, z_neg, z_nI, z_cl, z_sg, z_255, z_lit, Int32.reduceToInt] <;> omega))) (bn_t Sy.h0 ?_)
      obtain ⟨d, hd⟩ : ∃ d, m - j = d + 1 := ⟨m - j - 1, by omega⟩
      rw [hd] at q3
      have nx : ∀ (z : St) (l5 : Int32), FrSL 104 r x z → (∀ i, i < a → fL z r i = fL x r i) → ((∃ e, FlC 104 z e ∧ plR T ty st m [] p = .error e) ∨ ∃ acc q, acc.length = j + 1 ∧ (ty = 3 → l5 = nI (oF acc acc.length) ∧ oF acc acc.length ≤ 20000) ∧ Sr 104 z T n q st ∧ VsC z r a b ty acc ∧ plR T ty st m [] p = plR T ty st d acc q) → j_Opn_readPlain_120 post Q 96 (nI ty) r (nI a) (nI m) l5 (nI (a + j)) z := fun z l5 z1 z2 z3 => by
        unfold j_Opn_readPlain_120
        rw [nI_1]
        exact ih _ _ _ _ _ _ _ _ ⟨rfl, rfl, rfl, rfl, rfl, z1, z2, j + 1, rfl, cj, by rw [show m - (j + 1) = d by omega]; exact z3⟩ (by rw [nI_clamp (by omega), nI_clamp (by omega)]; omega)
      have vin : ∀ z, FrSL 104 r x z → vp_in (nI (a + j)) (fN z r) := fun z z1 => by rw [z1.len r]; exact vp_in_nI (by omega) (by omega)
      -- a value is laid behind the others
      have keepA : ∀ z v, (∀ i, i < a → fL z r i = fL x r i) → ∀ i, i < a → fL (setL z r (nI (a + j)) v) r i = fL x r i := fun z v z1 i hi => by
        rw [gL_at, nI_clamp (by omega), updL_ne (by omega)]
        exact z1 i hi
      have fixd : ∀ w, w = wid ty → w ≤ 8 → ty ≠ 3 → ∀ (g : Int64 → Int64), (∀ v, g (lN v) = whV ty v) → wp_Src_readFixed (fun (r7 : Int64) (x6 : St) => (vp_in (nI (a + j)) (fN x6 r) ∧ ∀ x8 : St, x8 = setL x6 r (nI (a + j)) (g r7) → j_Opn_readPlain_120 post Q 96 (nI ty) r (nI a) (nI m) a5 (nI (a + j)) x8)) 104 (nI w) y := fun w hw hw8 h3 g hg => by
        have er : plR T ty st (d + 1) acc q = (match fxd T w st q with | .error e => .error e | .ok (v, q') => plR T ty st d (acc ++ [(whV ty v, [])]) q') := by
          unfold plR
          rw [if_neg h3, hw]
          cases h : fxd T (wid ty) st q with
          | error e => simp only [wplF]; rw [h]
          | ok v => simp only [wplF]; rw [h, if_neg h3]
        refine r_fxd so4 Sy hw8 (fun e z z1 z2 z3 => ⟨vin z (Fg.trans y1 (FrSr.sl z2)), nm_e (nx _ _ (Fg.trans (Fg.trans y1 (FrSr.sl z2)) (Fg.l rfl)) (keepA z _ (fun i hi => by rw [z2.ll id]; exact y2 i hi)) (Or.inl ⟨e, z3, ?_⟩))⟩) (fun z z1 z2 Sz => ⟨vin z (Fg.trans y1 (FrSr.sl z2)), nm_e (nx _ _ (Fg.trans (Fg.trans y1 (FrSr.sl z2)) (Fg.l rfl)) (keepA z _ (fun i hi => by rw [z2.ll id]; exact y2 i hi)) (Or.inr ⟨acc ++ [(whV ty (fxV T q w), [])], q + w, ?_, fun z => absurd z h3, Sz.cg (Fg.l (L := fun a => a = r) (I := no2) (J := no2) (R := no2) (A := no1) rfl) id id id id, fun k hk => ?_, ?_⟩))⟩)
        · rw [q3, er, z1]
        · rw [List.length_append, q0]; rfl
        · rw [List.length_append] at hk
          have hk : k < acc.length + 1 := hk
          rw [gL_at, nI_clamp (by omega)]
          refine ⟨fun _ => ?_, fun z => absurd z h3⟩
          by_cases e : k = acc.length
          · rw [e, q0, updL_at, hg]
            unfold pvd
            rw [← q0, getD_n]
          · rw [updL_ne (by omega), z2.ll id, (q2 k (by omega)).1 h3]
            unfold pvd
            rw [getD_l (by omega)]
        · rw [q3, er, z1]
      by_cases c3 : ty = 3
      · subst c3
        refine bn_t rfl ?_
        have er : ∀ mm q', vrd T st q = .ok (mm, q') → plR T 3 st (d + 1) acc q = (if 255 < mm then .error 7 else if st < q' + mm then .error 1 else if 20000 < oF acc acc.length + mm then .error 7 else plR T 3 st d (acc ++ [(0, txs T q' mm)]) (q' + mm)) := fun mm q' h => by
          unfold plR
          rw [if_pos rfl, if_pos rfl]
          simp only [ptxF]
          rw [h]
        obtain ⟨o1, o2⟩ := q1 rfl
        refine r_vrd so4 Sy (fun e z z1 z2 z3 => k_let0 z3.ne ⟨vin z (Fg.trans y1 (FrSr.sl z2)), nm_e ⟨vin _ (Fg.trans (Fg.trans y1 (FrSr.sl z2)) (Fg.l rfl)), ?_⟩⟩) (fun mm q' z z1 z2 Sz v1 v2 => ?_)
        · have g2 : ∀ l5, j_Opn_readPlain_120 post Q 96 (nI 3) r (nI a) (nI m) l5 (nI (a + j)) (setL z r (nI (a + j)) 0) := fun l5 => nx _ l5 (Fg.trans (Fg.trans y1 (FrSr.sl z2)) (Fg.l rfl)) (keepA z _ (fun i hi => by rw [z2.ll id]; exact y2 i hi)) (Or.inl ⟨e, z3, by rw [q3]; unfold plR; rw [if_pos rfl]; simp only [ptxF]; rw [z1]⟩)
          have z3' : FlC 104 (setL z r (nI (a + j)) 0) e := z3
          unfold wp_V_sizeOf j_Opn_readPlain_77
          exact nm_e ⟨fun _ => k_ckf z3'.ne (g2 _), fun _ => k_ckf z3'.ne (g2 _)⟩
        · have hSz := Sz.le
          have er := er mm q' z1
          refine k_let Sz v1 hb (fun e u u1 u2 u3 => ⟨vin u (Fg.trans (Fg.trans y1 (FrSr.sl z2)) (FrSr.sl u2)), nm_e ⟨vin _ (Fg.trans (Fg.trans (Fg.trans y1 (FrSr.sl z2)) (FrSr.sl u2)) (Fg.l rfl)), ?_⟩⟩) (fun c1 c2 u u1 Su u2 => ?_)
          · have g2 : ∀ l5, j_Opn_readPlain_120 post Q 96 (nI 3) r (nI a) (nI m) l5 (nI (a + j)) (setL u r (nI (a + j)) 0) := fun l5 => nx _ l5 (Fg.trans (Fg.trans (Fg.trans y1 (FrSr.sl z2)) (FrSr.sl u2)) (Fg.l rfl)) (keepA u _ (fun i hi => by rw [u2.ll id, z2.ll id]; exact y2 i hi)) (Or.inl ⟨e, u3, by
              rw [q3, er]
              rcases u1 with ⟨w1, w2⟩ | ⟨w1, w2, w3⟩
              · rw [if_pos w1, w2]
              · rw [if_neg (by omega), if_pos w2, w3]⟩)
            have u3' : FlC 104 (setL u r (nI (a + j)) 0) e := u3
            unfold wp_V_sizeOf j_Opn_readPlain_77
            exact nm_e ⟨fun _ => k_ckf u3'.ne (g2 _), fun _ => k_ckf u3'.ne (g2 _)⟩
          · rw [if_neg (by omega), if_neg (by omega)] at er
            have fu : FrSL 104 r x u := Fg.trans (Fg.trans y1 (FrSr.sl z2)) (FrSr.sl u1)
            refine ⟨vin u fu, nm_e ⟨vin _ (Fg.trans fu (Fg.l rfl)), ?_⟩⟩
            have Su' : Sr 104 (setL u r (nI (a + j)) (lN (256 * q' + mm))) T n (q' + mm) st := Su.cg (Fg.l (L := fun a => a = r) (I := no2) (J := no2) (R := no2) (A := no1) rfl) id id id id
            have ka := keepA u (lN (256 * q' + mm)) (fun i hi => by rw [u1.ll id, z2.ll id]; exact y2 i hi)
            have fu' : FrSL 104 r x (setL u r (nI (a + j)) (lN (256 * q' + mm))) := Fg.trans fu (Fg.l rfl)
            have el : rL (setL u r (nI (a + j)) (lN (256 * q' + mm))) r (nI (a + j)) = lN (256 * q' + mm) := by rw [rL_nI (by omega), gL_at, nI_clamp (by omega), updL_at]
            have of2 : oF (acc ++ [((0 : Int64), txs T q' mm)]) (acc ++ [((0 : Int64), txs T q' mm)]).length = oF acc acc.length + mm := by
              rw [List.length_append]
              show oF (acc ++ [_]) (acc.length + 1) = _
              rw [oF_a2, show (((0 : Int64), txs T q' mm) : PV).2.length = mm from txs_len]
            unfold j_Opn_readPlain_77
            rw [el]
            refine k_size (ref_sz c1 (by omega)) ?_
            rw [o1, nI_add]
            refine nm_e ?_
            by_cases cb : 20000 < oF acc acc.length + mm
            · rw [if_pos cb] at er
              refine br_t (by (first | omega | (simp (disch := omega) only [Int32.le_iff_toInt_le, Int32.lt_iff_toInt_lt, z_eq, z_in, nI_toInt, z_cl, z_m1, z_sg, z_255, Int32.reduceToInt] <;> omega) | (simp only [Int32.le_iff_toInt_le, Int32.lt_iff_toInt_lt, z_eq, z_in, z_add, z_sub, z_mul, z_neg, z_nI, z_cl, z_sg, z_255, z_lit, Int32.reduceToInt] <;> omega))) (r_ck0 7 Su' (by decide) (by decide) (fun w w1 w2 => nx w _ (Fg.trans fu' (FrSr.sl w1)) (fun i hi => by rw [w1.ll id]; exact ka i hi) (Or.inl ⟨7, w2, by rw [q3, er]⟩)))
            · rw [if_neg cb] at er
              refine br_f (by (first | omega | (simp (disch := omega) only [Int32.le_iff_toInt_le, Int32.lt_iff_toInt_lt, z_eq, z_in, nI_toInt, z_cl, z_m1, z_sg, z_255, Int32.reduceToInt] <;> omega) | (simp only [Int32.le_iff_toInt_le, Int32.lt_iff_toInt_lt, z_eq, z_in, z_add, z_sub, z_mul, z_neg, z_nI, z_cl, z_sg, z_255, z_lit, Int32.reduceToInt] <;> omega))) (k_ck1 (nx _ _ fu' ka (Or.inr ⟨acc ++ [(0, txs T q' mm)], q' + mm, by rw [List.length_append, q0]; rfl, fun _ => ⟨by rw [of2], by rw [of2]; omega⟩, Su', fun k hk => ?_, by rw [q3, er]⟩)))
              rw [List.length_append] at hk
              have hk : k < acc.length + 1 := hk
              rw [gL_at, nI_clamp (by omega)]
              by_cases e : k = acc.length
              · rw [e, q0, updL_at]
                unfold pvd
                rw [← q0, getD_n]
                exact u2.same rfl
              · rw [updL_ne (by omega), u1.ll id, z2.ll id]
                have := q2 k (by omega)
                unfold pvd at this ⊢
                rw [getD_l (by omega)]
                exact this.same (by show fA u 82 = _; rw [u1.aa id, z2.aa id])
      · refine bn_f (fun z => c3 (nI_inj (b := 3) (by omega) (by decide) z)) ?_
        by_cases c1 : ty = 1
        · refine bn_t (by rw [c1]; rfl) (fixd 4 (by rw [c1]; rfl) (by decide) c3 (fun v => v.toInt32.toInt64) (fun v => by unfold whV; rw [if_pos c1]))
        · refine bn_f (fun z => c1 (nI_inj (b := 1) (by omega) (by decide) z)) (fixd 8 (by unfold wid; rw [if_neg c1]) (by decide) c3 (fun v => v) (fun v => by unfold whV; rw [if_neg c1]))
    · have ej : j = m := by omega
      subst ej
      refine br_t (by (first | omega | (simp (disch := omega) only [Int32.le_iff_toInt_le, Int32.lt_iff_toInt_lt, z_eq, z_in, nI_toInt, z_cl, z_m1, z_sg, z_255, Int32.reduceToInt] <;> omega) | (simp only [Int32.le_iff_toInt_le, Int32.lt_iff_toInt_lt, z_eq, z_in, z_add, z_sub, z_mul, z_neg, z_nI, z_cl, z_sg, z_255, z_lit, Int32.reduceToInt] <;> omega))) (pk acc q y ?_ y1 Sy q0 q2 (fun z => (q1 z).2) y2)
      rw [q3, Nat.sub_self]
      unfold plR
      split <;> rfl
theorem k_cnt0 {post : St → Prop} {ty : Int32} (h0 : ¬ fI x 104 3 = 0) (q : post x) : wp_Opn_countTexts post 96 ty x := ⟨1, by
  unfold wl_Opn_countTexts_2 j_Opn_countTexts_2
  exact ⟨fun _ => q, fun _ => ⟨fun _ => q, fun _ => ⟨fun _ => q, fun z => absurd z h0⟩⟩⟩⟩
theorem k_cnt {post : St → Prop} {ty b : Nat} {P : List PV} (hty : ty < 4) (h0 : fI x 104 3 = 0) (hL : LC x) (hv : fI x 96 9 = nI P.length) (hm : P.length ≤ 2000) (h15 : fI x 96 15 = 0) (hP : VsC x 101 0 b ty P) (hb : b ≤ 120255) (ho : oF P P.length ≤ 20000) (hn : ty ≠ 3 → oF P P.length = 0) (k : ∀ y, Fg (fun a k => a = 96 ∧ k = 15) no2 no2 no1 no1 x y → fI y 96 15 = nI (oF P P.length) → post y) : wp_Opn_countTexts post 96 (nI ty) x := by
  by_cases c3 : ty = 3
  · subst c3
    unfold wp_Opn_countTexts
    refine lp_Opn_countTexts_2 (fun a0 a1 a2 y => 96 = a0 ∧ nI 3 = a1 ∧ Fg (fun a k => a = 96 ∧ k = 15) no2 no2 no1 no1 x y ∧ ∃ j, nI j = a2 ∧ j ≤ P.length ∧ fI y 96 15 = nI (oF P j)) (fun _ _ a2 _ => P.length - a2.toNatClampNeg) ?_ _ _ _ _ ⟨rfl, rfl, Fg.refl x, 0, rfl, Nat.zero_le _, h15⟩
    rintro Q a0 a1 a2 y ⟨rfl, rfl, y1, j, rfl, j1, y2⟩ ih
    unfold j_Opn_countTexts_2
    rw [show stC 96 2 = 104 from rfl, show stC 96 8 = 101 from rfl, (y1.ii (by decide)).trans hv]
    by_cases cj : j < P.length
    · refine br_f (by (first | omega | (simp (disch := omega) only [Int32.le_iff_toInt_le, Int32.lt_iff_toInt_lt, z_eq, z_in, nI_toInt, z_cl, z_m1, z_sg, z_255, Int32.reduceToInt] <;> omega) | (simp only [Int32.le_iff_toInt_le, Int32.lt_iff_toInt_lt, z_eq, z_in, z_add, z_sub, z_mul, z_neg, z_nI, z_cl, z_sg, z_255, z_lit, Int32.reduceToInt] <;> omega))) (bn_t rfl (bn_t ((y1.ii (by decide)).trans h0) ⟨?_, ?_⟩))
      · rw [y1.len, hL 101 (by decide)]
        exact vp_in_nI (by show _ < 2000; omega) (by decide)
      · have hj := hP j cj
        rw [Nat.zero_add] at hj
        obtain ⟨g1, a, g2, g3, -⟩ := hj.2 rfl
        have l1 := g1.1
        rw [rL_nI (by omega), y1.ll id, g2]
        refine k_size (ref_sz l1 (by omega)) ?_
        rw [y2, nI_add]
        refine nm_e ?_
        rw [nI_1]
        exact ih _ _ _ _ ⟨rfl, rfl, Fg.trans y1 (Fg.i ⟨rfl, rfl⟩), j + 1, rfl, cj, gI_at⟩ (by rw [nI_clamp (by omega), nI_clamp (by omega)]; omega)
    · have e : j = P.length := by omega
      subst e
      exact br_t (by (first | omega | (simp (disch := omega) only [Int32.le_iff_toInt_le, Int32.lt_iff_toInt_lt, z_eq, z_in, nI_toInt, z_cl, z_m1, z_sg, z_255, Int32.reduceToInt] <;> omega) | (simp only [Int32.le_iff_toInt_le, Int32.lt_iff_toInt_lt, z_eq, z_in, z_add, z_sub, z_mul, z_neg, z_nI, z_cl, z_sg, z_255, z_lit, Int32.reduceToInt] <;> omega))) (k y y1 y2)
  · have := k x (Fg.refl x) (by rw [hn c3]; exact h15)
    refine ⟨1, ?_⟩
    unfold wl_Opn_countTexts_2 j_Opn_countTexts_2
    exact ⟨fun _ => this, fun _ => bn_f (fun z => c3 (nI_inj (b := 3) (by omega) (by decide) z)) this⟩
end
