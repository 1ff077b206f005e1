/-! bits, the lowest first -/
def sb (S : Nat → Nat) (a : Nat) : Nat → Nat
  | 0 => 0
  | m + 1 => sb S a m + S (a + m) * 2 ^ m
def packB (S : Nat → Nat) (m : Nat) : List Nat := (List.range m).map (fun j => sb S (8 * j) 8)
def nbit (v i : Nat) : Nat := v / 2 ^ i % 2
theorem nbit_le (v i : Nat) : nbit v i ≤ 1 := by unfold nbit; omega
theorem sb_lt {S : Nat → Nat} {a : Nat} (h : ∀ i, S i ≤ 1) : ∀ m, sb S a m < 2 ^ m := by
  intro m
  induction m with
  | zero => show 0 < 1; decide
  | succ m ih =>
    show sb S a m + S (a + m) * 2 ^ m < _
    have := h (a + m)
    have : S (a + m) * 2 ^ m ≤ 1 * 2 ^ m := Nat.mul_le_mul_right _ this
    rw [Nat.pow_succ]
    omega
theorem sb_add {S : Nat → Nat} {a m : Nat} : ∀ p, sb S a (m + p) = sb S a m + sb S (a + m) p * 2 ^ m := by
  intro p
  induction p with
  | zero => show sb S a m = sb S a m + 0 * 2 ^ m; omega
  | succ p ih =>
    show sb S a (m + p) + S (a + (m + p)) * 2 ^ (m + p) = sb S a m + (sb S (a + m) p + S (a + m + p) * 2 ^ p) * 2 ^ m
    rw [ih, Nat.add_mul, Nat.pow_add, Nat.add_assoc a m p, Nat.mul_assoc, Nat.mul_comm (2 ^ m) (2 ^ p)]
    omega
theorem sb_cg {S U : Nat → Nat} {a b : Nat} : ∀ m, (∀ i, i < m → S (a + i) = U (b + i)) → sb S a m = sb U b m := by
  intro m
  induction m with
  | zero => intro _; rfl
  | succ m ih => intro h; show sb S a m + S (a + m) * 2 ^ m = sb U b m + U (b + m) * 2 ^ m; rw [ih (fun i hi => h i (by omega)), h m (by omega)]
theorem sb_nbit {S : Nat → Nat} {a v d : Nat} : ∀ p, (∀ j, j < p → S (a + j) = nbit v (d + j)) → sb S a p = v / 2 ^ d % 2 ^ p := by
  intro p
  induction p with
  | zero => intro _; show 0 = v / 2 ^ d % 1; omega
  | succ p ih =>
    intro h
    show sb S a p + S (a + p) * 2 ^ p = _
    rw [ih (fun j hj => h j (by omega)), h p (by omega), Nat.pow_succ, Nat.mod_mul]
    unfold nbit
    rw [Nat.div_div_eq_div_mul, ← Nat.pow_add, Nat.mul_comm]
theorem packB_s {S : Nat → Nat} {m : Nat} : packB S (m + 1) = packB S m ++ [sb S (8 * m) 8] := by
  unfold packB
  rw [List.range_succ, List.map_append]
  rfl
theorem packB_len {S : Nat → Nat} {m : Nat} : (packB S m).length = m := by unfold packB; rw [List.length_map, List.length_range]
theorem packB_by {S : Nat → Nat} (h : ∀ i, S i ≤ 1) {m b : Nat} (hb : b ∈ packB S m) : b < 256 := by
  unfold packB at hb
  obtain ⟨j, -, rfl⟩ := List.mem_map.mp hb
  exact sb_lt h 8
theorem packB_cg {S U : Nat → Nat} {m : Nat} (h : ∀ i, i < 8 * m → S i = U i) : packB S m = packB U m := by
  unfold packB
  refine List.map_congr_left (fun j hj => ?_)
  have := List.mem_range.mp hj
  exact sb_cg 8 (fun i hi => h _ (by omega))
theorem nI_or {a b : Nat} (ha : a < 2 ^ 32) (hb : b < 2 ^ 32) : nI a ||| nI b = nI (a ||| b) := by
  apply Int32.toBitVec_inj.mp
  apply BitVec.eq_of_toNat_eq
  rw [Int32.toBitVec_or, BitVec.toNat_or, pk_tn ha, pk_tn hb, pk_tn (Nat.or_lt_two_pow ha hb)]
theorem or_add {a c h : Nat} (ha : a < 2 ^ h) : a ||| c * 2 ^ h = a + c * 2 ^ h := by
  rw [Nat.or_comm, ← Nat.shiftLeft_eq, ← Nat.shiftLeft_add_eq_or_of_lt ha, Nat.add_comm]
theorem nI_orA {a c h : Nat} (ha : a < 2 ^ h) (hb : a + c * 2 ^ h < 2 ^ 32) : nI a ||| nI (c * 2 ^ h) = nI (a + c * 2 ^ h) := by
  rw [nI_or (by omega) (by omega), or_add ha]
/-! the class puts bits -/
def BitS (x : St) (s : Nat) (B : List Nat) (S : Nat → Nat) (t : Nat) : Prop := Sn x s (B ++ packB S (t / 8)) ∧ fI x s 5 = nI (sb S (8 * (t / 8)) (t % 8)) ∧ fI x s 6 = nI (t % 8)
def AppB (κ : Nat → Nat) (s : Nat) (B : List Nat) (S : Nat → Nat) (t u : Nat) (Pre : St → Prop) (W : (St → Prop) → Nat → Nat → St → Prop) : Prop := ∃ κ', Kle κ κ' ∧ ∀ x post kb nb, SkS x → Caps x κ → BitS x s B S t → Pre x → KP κ ≤ kb + KP κ' → NP κ ≤ nb + NP κ' → (∀ y, SkS y → Caps y κ' → FK s x y → BitS y s B S u → post y) → W post kb nb x
theorem AppB.of {κ : Nat → Nat} {s t u : Nat} {B : List Nat} {S : Nat → Nat} {Pre : St → Prop} {W : (St → Prop) → Nat → Nat → St → Prop} (hκ : ∀ t, SnkId t → κ t ≤ roomOf t) (h : ∀ x, SkS x → Caps x κ → BitS x s B S t → AppB κ s B S t u Pre W) : AppB κ s B S t u Pre W := by
  by_cases c : ∃ x, SkS x ∧ Caps x κ ∧ BitS x s B S t
  · obtain ⟨x, h1, h2, h3⟩ := c
    exact h x h1 h2 h3
  · exact ⟨κ, Kle.refl hκ, fun x post kb nb h1 h2 h3 => absurd ⟨x, h1, h2, h3⟩ c⟩
theorem FK.i {x : St} {s k : Nat} {v : Int32} (hk : k = 1 ∨ k = 2 ∨ k = 5 ∨ k = 6) : FK s x (setI x s k v) := by
  refine ⟨fun o j c => ?_, fun _ _ _ => rfl, fun _ _ _ _ => rfl, fun _ _ _ _ => ⟨rfl, rfl⟩, fun _ _ => rfl, fun _ _ => rfl, fun t r a b => Or.inl ⟨t, a, b⟩⟩
  show (if o = s ∧ j = k then v else x.1 o j) = _
  rw [if_neg (fun z => c ⟨z.1, by rw [z.2]; exact hk⟩)]
theorem Sn.i {x : St} {s k : Nat} {v : Int32} {B : List Nat} (h : Sn x s B) (hk : k ≠ 1 ∧ k ≠ 2) : Sn (setI x s k v) s B := by
  rcases h with ⟨h1, h2⟩ | ⟨h1, h2, c, q, h3, h4⟩
  · exact Or.inl ⟨h1, h2.cg (gI_ne (by omega)) (gI_ne (by omega)) rfl (fun _ _ => ⟨rfl, rfl⟩)⟩
  · exact Or.inr ⟨h1, by rw [gI_ne (by omega)]; exact h2, c, q, by rw [gI_ne (by omega)]; exact h3, h4⟩
theorem Sn.app {x y : St} {s b : Nat} {B : List Nat} (h : HL y s (B ++ [b])) (c : B.length + 1 ≤ roomOf s) : Sn y s (B ++ [b]) := Or.inl ⟨by rw [List.length_append]; exact c, h⟩
theorem one_shl : ∀ p, p < 9 → ((1 : Int32) <<< (nI p &&& 31)) - 1 = nI (2 ^ p - 1) := by decide +kernel
theorem k_bitsL {s w t0 u : Nat} {v : Int64} {B : List Nat} {S : Nat → Nat} {Pre : St → Prop} (hs : SnkId s) (st : ∀ x y, SkS x → FK s x y → Pre x → Pre y) (hS : ∀ i, S i ≤ 1) (hw : w ≤ 64) (hv : v = lN u) (hu : u < 2 ^ 64) (hb : ∀ j, j < w → S (t0 + j) = nbit u j) :
    ∀ m f d k κ, d + m = w → m < f → (m = 0 ∨ 8 * k ≤ t0 % 8 + d) → k ≤ 10 → (∀ t, SnkId t → κ t ≤ roomOf t) → AppB κ s B S (t0 + d) (t0 + w) Pre (fun post kb nb x => wl_Snk_putBits_6 post f s v (nI w) (nI d) (nI k) kb nb x) := by
  intro m
  induction m using Nat.strongRecOn with
  | ind m ih =>
    intro f d k κ hd hf hk hk10 hκ
    obtain ⟨f, rfl⟩ : ∃ g, f = g + 1 := ⟨f - 1, by omega⟩
    by_cases cm : m = 0
    · subst cm
      have e : d = w := by omega
      subst e
      refine ⟨κ, Kle.refl hκ, fun x post kb nb hK hC h hp _ _ p => ?_⟩
      show j_Snk_putBits_6 post _ s v (nI d) (nI d) (nI k) kb nb x
      unfold j_Snk_putBits_6
      have done := p x hK hC (FX.refl x) h
      exact ⟨fun _ => done, fun _ => br_t (by (first | omega | (simp (disch := omega) only [Int32.le_iff_toInt_le, Int32.lt_iff_toInt_lt, z_eq, z_in, nI_toInt, z_cl, z_m1, z_sg, z_255, Int32.reduceToInt] <;> omega) | (simp only [Int32.le_iff_toInt_le, Int32.lt_iff_toInt_lt, z_eq, z_in, z_add, z_sub, z_mul, z_neg, z_nI, z_cl, z_sg, z_255, z_lit, Int32.reduceToInt] <;> omega))) done⟩
    · have hk : 8 * k ≤ t0 % 8 + d := hk.resolve_left cm
      generalize ht : t0 + d = t at *
      have hh : t % 8 < 8 := Nat.mod_lt _ (by decide)
      -- how many bits at once
      obtain ⟨p, hp⟩ : ∃ p, p = min (8 - t % 8) (w - d) := ⟨_, rfl⟩
      have hp1 : 1 ≤ p ∧ p ≤ 8 - t % 8 ∧ p ≤ w - d := by omega
      have ek : ¬ (10 : Int32) ≤ nI k := by (first | omega | (simp (disch := omega) only [Int32.le_iff_toInt_le, Int32.lt_iff_toInt_lt, z_eq, z_in, nI_toInt, z_cl, z_m1, z_sg, z_255, Int32.reduceToInt] <;> omega) | (simp only [Int32.le_iff_toInt_le, Int32.lt_iff_toInt_lt, z_eq, z_in, z_add, z_sub, z_mul, z_neg, z_nI, z_cl, z_sg, z_255, z_lit, Int32.reduceToInt] <;> omega))
      have ed : ¬ nI w ≤ nI d := by (first | omega | (simp (disch := omega) only [Int32.le_iff_toInt_le, Int32.lt_iff_toInt_lt, z_eq, z_in, nI_toInt, z_cl, z_m1, z_sg, z_255, Int32.reduceToInt] <;> omega) | (simp only [Int32.le_iff_toInt_le, Int32.lt_iff_toInt_lt, z_eq, z_in, z_add, z_sub, z_mul, z_neg, z_nI, z_cl, z_sg, z_255, z_lit, Int32.reduceToInt] <;> omega))
      have e5 : (if (nI w - nI d) < (8 - nI (t % 8)) then (nI w - nI d) else (8 - nI (t % 8))) = nI p := by
        rw [nI_sub (by omega : d ≤ w), show (8 : Int32) = nI 8 from rfl, nI_sub (by omega), nI_min (by omega) (by omega), hp, Nat.min_comm]
      have sum : sb S (8 * (t / 8)) (t % 8 + p) = sb S (8 * (t / 8)) (t % 8) + u / 2 ^ d % 2 ^ p * 2 ^ (t % 8) := by
        rw [sb_add, show 8 * (t / 8) + t % 8 = t by omega, sb_nbit (a := t) (v := u) (d := d) p (fun j hj => by rw [← ht, Nat.add_assoc]; exact hb (d + j) (by omega))]
      have lt8 := sb_lt (a := 8 * (t / 8)) hS (t % 8 + p)
      have lt0 := sb_lt (a := 8 * (t / 8)) hS (t % 8)
      have p256 : 2 ^ (t % 8 + p) ≤ 2 ^ 8 := Nat.pow_le_pow_right (by decide) (by omega)
      have val : nI (sb S (8 * (t / 8)) (t % 8)) ||| (((((v : Int64).toUInt64 >>> ((nI d : Int32).toInt64.toUInt64 &&& Int64.toUInt64 63)).toInt64 &&& (((1 <<< (nI p &&& 31)) - 1) : Int32).toInt64) : Int64).toInt32 <<< (nI (t % 8) &&& 31)) = nI (sb S (8 * (t / 8)) (t % 8 + p)) := by
        have q1 : u / 2 ^ d < 2 ^ 64 := Nat.lt_of_le_of_lt (Nat.div_le_self _ _) hu
        have q2 : 2 ^ p - 1 < 2 ^ 31 := by
          have : 2 ^ p ≤ 2 ^ 8 := Nat.pow_le_pow_right (by decide) (by omega)
          omega
        rw [hv, wb_shr hu (by omega), one_shl p (by omega), nI_l q2, wb_mask q1 (by omega), lN_i, pk_shlN _ (t % 8) (s_l _ (by omega)) (by omega), sum, nI_orA lt0 (by omega)]
      by_cases cf : t % 8 + p = 8
      · -- a byte is full
        have e1 : (t + p) / 8 = t / 8 + 1 := by omega
        have e2 : (t + p) % 8 = 0 := by omega
        have hS0 : sb S (8 * (t / 8)) 8 < 256 := sb_lt hS 8
        refine AppB.of hκ (fun x0 K0 c0 s0 => ?_)
        obtain ⟨κ2, m2, f2⟩ := ih (m - p) (by omega) f (d + p) (k + 1) (roomK κ s (B ++ packB S (t / 8)) 1) (by omega) (by omega) (by omega) (by omega) (fun t' ht' => (roomK_le hs K0 c0 s0.1 t' ht').2)
        refine ⟨κ2, (roomK_le hs K0 c0 s0.1).trans m2, fun x post kb nb hK hC h hp' hk' hn pp => ?_⟩
        show j_Snk_putBits_6 post _ s v (nI w) (nI d) (nI k) kb nb x
        unfold j_Snk_putBits_6
        refine br_f ek (br_f ed (nm_r (e' := nI p) (by rw [h.2.2]; exact e5) (nm_r (e' := setI x s 5 (nI (sb S (8 * (t / 8)) 8))) (by rw [h.2.1, h.2.2, val, cf]) (nm_r (e' := setI (setI x s 5 (nI (sb S (8 * (t / 8)) 8))) s 6 8) ?_ (nm_r (e' := nI (d + p)) (nI_add d p) ?_)))))
        · rw [gI_ne (by decide), h.2.2, nI_add, cf]; rfl
        have FX7 : FK s x (setI (setI x s 5 (nI (sb S (8 * (t / 8)) 8))) s 6 8) := FK.trans hs (FK.i (by decide)) (FK.i (by decide))
        have s7 : Sn (setI (setI x s 5 (nI (sb S (8 * (t / 8)) 8))) s 6 8) s (B ++ packB S (t / 8)) := (h.1.i (by decide)).i (by decide)
        have k7 : SkS (setI (setI x s 5 (nI (sb S (8 * (t / 8)) 8))) s 6 8) := setI_skS (setI_skS hK (by decide)) (by decide)
        have c7 : Caps (setI (setI x s 5 (nI (sb S (8 * (t / 8)) 8))) s 6 8) κ := hC
        have i5 : fI (setI (setI x s 5 (nI (sb S (8 * (t / 8)) 8))) s 6 8) s 5 = nI (sb S (8 * (t / 8)) 8) := by rw [gI_ne (by decide), gI_at]
        have i6 : fI (setI (setI x s 5 (nI (sb S (8 * (t / 8)) 8))) s 6 8) s 6 = 8 := gI_at
        generalize setI (setI x s 5 (nI (sb S (8 * (t / 8)) 8))) s 6 8 = X at FX7 s7 k7 c7 i5 i6 ⊢
        refine bn_t i6 (bseq (roomK_le hs K0 c0 s0.1) m2 hk' hn (fun k1 n1 k2 n2 b1 b2 b3 b4 => ?_))
        have fin : ∀ y, SkS y → Caps y (roomK κ s (B ++ packB S (t / 8)) 1) → FK s X y → Sn y s (B ++ packB S (t / 8 + 1)) → j_Snk_putBits_121 post (wl_Snk_putBits_6 post f) s v (nI w) (nI (d + p)) (nI k) (nI p) k2 n2 y := by
          intro y y1 y2 y3 y4
          unfold j_Snk_putBits_121 j_Snk_putBits_131
          refine nm_e (nm_e ?_)
          rw [nI_1]
          have fz : FK s x (setI (setI y s 5 0) s 6 0) := FK.trans hs FX7 (FK.trans hs y3 (FK.trans hs (FK.i (by decide)) (FK.i (by decide))))
          refine f2 _ post k2 n2 (setI_skS (setI_skS y1 (by decide)) (by decide)) y2 ⟨?_, ?_, ?_⟩ (st x _ hK fz hp') b3 b4 (fun z z1 z2 z3 z4 => pp z z1 z2 (FK.trans hs fz z3) z4)
          · rw [← Nat.add_assoc, ht, e1]; exact (y4.i (by decide)).i (by decide)
          · rw [← Nat.add_assoc, ht, e2, gI_ne (by decide), gI_at]; rfl
          · rw [← Nat.add_assoc, ht, e2, gI_at]; rfl
        refine k_hasRoom (m := 1) hs k7 c7 s7 (by decide) b1 b2 (fun c y q y1 y2 y3 y4 y5 y6 => br_f (by decide) ⟨q, y5, ?_⟩) (fun c y y1 y2 y3 y4 y5 => br_t rfl (fin y y1 y2 y3.x ?_))
        · have hq2 : fN y q < 2 ^ 31 := by
            obtain ⟨-, q', a1, -, -, a4, -⟩ := y1 s hs
            rw [y5] at a1
            rw [← Option.some.inj a1] at a4
            have := (room_bd s).2
            omega
          have ey := y4.2.1
          have e5y : fI y s 5 = nI (sb S (8 * (t / 8)) 8) := (frK5 y3 (by decide)).trans i5
          obtain ⟨o1, o2, o3⟩ := HL.put (w := vp_nar .byte (nI (sb S (8 * (t / 8)) 8)).toInt8.toInt32) y1 hs y4 y5 y6 hS0 (by
            show (nI (sb S (8 * (t / 8)) 8)).toInt8.toInt32.toInt8.toInt32 = _
            (first | omega | (simp (disch := omega) only [Int32.le_iff_toInt_le, Int32.lt_iff_toInt_lt, z_eq, z_in, nI_toInt, z_cl, z_m1, z_sg, z_255, Int32.reduceToInt] <;> omega) | (simp only [Int32.le_iff_toInt_le, Int32.lt_iff_toInt_lt, z_eq, z_in, z_add, z_sub, z_mul, z_neg, z_nI, z_cl, z_sg, z_255, z_lit, Int32.reduceToInt] <;> omega)))
          rw [ey, e5y]
          refine ⟨vp_in_nI (by omega) hq2, nm_e (nm_r (e' := setI (setA y q (nI (B ++ packB S (t / 8)).length) (vp_nar .byte (nI (sb S (8 * (t / 8)) 8)).toInt8.toInt32)) s 1 (nI ((B ++ packB S (t / 8)).length + 1))) (by rw [show fI (setA y q (nI (B ++ packB S (t / 8)).length) (vp_nar .byte (nI (sb S (8 * (t / 8)) 8)).toInt8.toInt32)) s 1 = fI y s 1 from rfl, ey, nI_1]) (fin _ o1 y2 (FK.trans hs y3.x o2.x) ?_))⟩
          rw [packB_s, ← List.append_assoc]
          exact Sn.app (x := y) o3 c
        · refine Or.inr ⟨?_, y4, y5⟩
          rw [packB_s, ← List.append_assoc, List.length_append]
          exact c
      · -- the byte isn't full yet
        have ew : d + p = w := by omega
        have e1 : (t + p) / 8 = t / 8 := by omega
        have e2 : (t + p) % 8 = t % 8 + p := by omega
        obtain ⟨κ2, m2, f2⟩ := ih (m - p) (by omega) f (d + p) (k + 1) κ (by omega) (by omega) (Or.inl (by omega)) (by omega) hκ
        refine ⟨κ2, m2, fun x post kb nb hK hC h hp' hk' hn pp => ?_⟩
        show j_Snk_putBits_6 post _ s v (nI w) (nI d) (nI k) kb nb x
        unfold j_Snk_putBits_6
        refine br_f ek (br_f ed (nm_r (e' := nI p) (by rw [h.2.2]; exact e5) (nm_r (e' := setI x s 5 (nI (sb S (8 * (t / 8)) (t % 8 + p)))) (by rw [h.2.1, h.2.2, val]) (nm_r (e' := setI (setI x s 5 (nI (sb S (8 * (t / 8)) (t % 8 + p)))) s 6 (nI (t % 8 + p))) ?_ (nm_r (e' := nI (d + p)) (nI_add d p) ?_)))))
        · rw [gI_ne (by decide), h.2.2, nI_add]
        refine bn_f (by rw [gI_at]; exact fun z => cf ((nI_eq (b := 8) (by omega) (by decide)).mp z)) ?_
        unfold j_Snk_putBits_131
        rw [nI_1]
        have fz : FK s x (setI (setI x s 5 (nI (sb S (8 * (t / 8)) (t % 8 + p)))) s 6 (nI (t % 8 + p))) := FK.trans hs (FK.i (by decide)) (FK.i (by decide))
        refine f2 _ post kb nb (setI_skS (setI_skS hK (by decide)) (by decide)) hC ⟨?_, ?_, ?_⟩ (st x _ hK fz hp') hk' hn (fun z z1 z2 z3 z4 => pp z z1 z2 (FK.trans hs fz z3) z4)
        · rw [← Nat.add_assoc, ht, e1]; exact (h.1.i (by decide)).i (by decide)
        · rw [← Nat.add_assoc, ht, e1, e2, gI_ne (by decide), gI_at]
        · rw [← Nat.add_assoc, ht, e2, gI_at]
theorem k_bits {κ : Nat → Nat} {s w t0 : Nat} {v : Int64} {B : List Nat} {S : Nat → Nat} {Pre : St → Prop} (hs : SnkId s) (st : ∀ x y, SkS x → FK s x y → Pre x → Pre y) (hS : ∀ i, S i ≤ 1) (hw : w ≤ 64) (hb : ∀ j, j < w → S (t0 + j) = nbit (uL v) j) (hκ : ∀ t, SnkId t → κ t ≤ roomOf t) : AppB κ s B S t0 (t0 + w) Pre (fun post kb nb x => wp_Snk_putBits post s v (nI w) kb nb x) := by
  obtain ⟨κ1, m1, f1⟩ := k_bitsL (B := B) (u := uL v) hs st hS hw (lN_uL v).symm (uL_lt v) hb w (w + 1) 0 0 κ (by omega) (by omega) (Or.inr (by omega)) (by decide) hκ
  exact ⟨κ1, m1, fun x post kb nb hK hC h hp hk hn p => ⟨w + 1, f1 x post kb nb hK hC h hp hk hn p⟩⟩
