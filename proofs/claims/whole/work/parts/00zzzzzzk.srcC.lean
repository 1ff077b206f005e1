/-! the class reads bytes: a Source -/
def FiC (x : St) (T : Nat → Nat) (n : Nat) : Prop := LC x ∧ n ≤ 40000 ∧ (∀ i, T i < 256) ∧ ∀ i, i < n → fA x 82 i = (nI (T i)).toInt8.toInt32
def SrO (o : Nat) : Prop := o = 102 ∨ o = 104
theorem SrO.st {o : Nat} (h : SrO o) : stC o 0 = 82 := by rcases h with rfl | rfl <;> rfl
theorem SrO.st4 {o : Nat} (h : SrO o) : stC o 4 = o + 1 := by rcases h with rfl | rfl <;> rfl
abbrev FrSr (o : Nat) (x y : St) : Prop := Fg (fun a k => a = o ∧ (k = 1 ∨ k = 3)) no2 no2 no1 no1 x y
def FlC (o : Nat) (y : St) (e : Nat) : Prop := fI y o 3 = nI e ∧ 0 < e ∧ e < 100
theorem FlC.ne {o : Nat} {y : St} {e : Nat} (h : FlC o y e) : ¬ fI y o 3 = 0 := fun z => by
  rw [h.1] at z
  have := nI_inj (b := 0) (by have := h.2.2; omega) (by decide) z
  have := h.2.1
  omega
theorem by255 : ∀ t, t < 256 → (nI t).toInt8.toInt32 &&& 255 = nI t := by decide +kernel
theorem by255L : ∀ t, t < 256 → ((nI t).toInt8.toInt32).toInt64 &&& 255 = lN t := by decide +kernel
theorem cI_at {x : St} {o k : Nat} {v : Int32} : fI (setI x o k v) o k = v := gI_at
section
variable {x : St} {T : Nat → Nat} {n st p o : Nat}
theorem FiC.cg {y : St} (h : FiC x T n) (e1 : fA y 82 = fA x 82) (e2 : ∀ r, fN y r = fN x r) : FiC y T n := ⟨fun r hr => (e2 r).trans (h.1 r hr), h.2.1, h.2.2.1, fun i hi => by rw [e1]; exact h.2.2.2 i hi⟩
theorem Fg.fic {y : St} {I J R : Nat → Nat → Prop} {A L : Nat → Prop} (f : Fg I J R A L x y) (hA : ¬ A 82) (h : FiC x T n) : FiC y T n := h.cg (f.2.2.2.1 82 hA) (fun r => by show y.2.2.2.2.2 r = _; rw [f.2.2.2.2.2])
theorem FrSr.fi {y : St} (f : FrSr o x y) (h : FiC x T n) : FiC y T n := Fg.fic f id h
theorem FiC.by (h : FiC x T n) {i : Nat} (hi : i < n) : rA x 82 (nI i) &&& 255 = nI (T i) ∧ (rA x 82 (nI i)).toInt64 &&& 255 = lN (T i) ∧ vp_in (nI i) (fN x 82) := by
  have hn := h.2.1
  have e : fN x 82 = 120255 := h.1 82 (by decide)
  rw [rA_nI (by omega), h.2.2.2 i hi]
  exact ⟨by255 _ (h.2.2.1 i), by255L _ (h.2.2.1 i), vp_in_nI (by omega) (by omega)⟩
theorem k_ck1 {post : St → Prop} {e : Int32} (q : post x) : wp_Src_check post o 1 e x := ⟨fun _ => q, fun _ => ⟨fun _ => q, fun z => absurd z (by decide)⟩⟩
theorem k_ckf {post : St → Prop} {b e : Int32} (h : ¬ fI x o 3 = 0) (q : post x) : wp_Src_check post o b e x := ⟨fun _ => q, fun z => absurd z h⟩
theorem k_ck0 {post : St → Prop} {e : Int32} (h : fI x o 3 = 0) (q : post (setI x o 3 e)) : wp_Src_check post o 0 e x := ⟨fun z => absurd h z, fun _ => ⟨fun z => absurd rfl z, fun _ => nm_e q⟩⟩
theorem k_vrdL {post : Int64 → St → Prop} (ho : SrO o) (hst : st ≤ n) : ∀ d k a p (x : St), FiC x T n → fI x o 3 = 0 → fI x o 1 = nI p → fI x o 2 = nI st → p ≤ st → k + d = 10 → 1 ≤ d → a < 2 ^ (7 * k) →
    (∀ e y, vrF T st d k a p = .error e → FrSr o x y → FlC o y e → post 0 y) → (∀ v q y, vrF T st d k a p = .ok (v, q) → FrSr o x y → fI y o 1 = nI q → fI y o 3 = 0 → post (lN v) y) → wl_Src_readVarint_4 post (d + 1) o (lN a) (nI k) x := by
  intro d
  induction d with
  | zero => intro k a p x _ _ _ _ _ _ h; omega
  | succ d ih =>
    intro k a p x hF h0 hp hs hps hk _ ha pe pk
    have hn := hF.2.1
    unfold wl_Src_readVarint_4 j_Src_readVarint_4
    refine br_f (by (first | omega | (simp (disch := omega) only [Int32.le_iff_toInt_le, Int32.lt_iff_toInt_lt, z_eq, z_in, nI_toInt, z_cl, z_m1, z_sg, z_255, Int32.reduceToInt] <;> omega) | (simp only [Int32.le_iff_toInt_le, Int32.lt_iff_toInt_lt, z_eq, z_in, z_add, z_sub, z_mul, z_neg, z_nI, z_cl, z_sg, z_255, z_lit, Int32.reduceToInt] <;> omega))) ⟨fun z => absurd h0 z, fun _ => ?_⟩
    rw [hp, hs, ho.st]
    by_cases c1 : p < st
    · have hT := hF.2.2.1 p
      obtain ⟨b1, -, b3⟩ := hF.by (i := p) (by omega)
      refine br_t (by (first | omega | (simp (disch := omega) only [Int32.le_iff_toInt_le, Int32.lt_iff_toInt_lt, z_eq, z_in, nI_toInt, z_cl, z_m1, z_sg, z_255, Int32.reduceToInt] <;> omega) | (simp only [Int32.le_iff_toInt_le, Int32.lt_iff_toInt_lt, z_eq, z_in, z_add, z_sub, z_mul, z_neg, z_nI, z_cl, z_sg, z_255, z_lit, Int32.reduceToInt] <;> omega))) ⟨b3, nm_r b1 ?_⟩
      rw [nI_1]
      refine nm_e ?_
      have fy : FrSr o x (setI x o 1 (nI (p + 1))) := Fg.i ⟨rfl, by decide⟩
      have y1 : fI (setI x o 1 (nI (p + 1))) o 1 = nI (p + 1) := gI_at
      have y3 : fI (setI x o 1 (nI (p + 1))) o 3 = 0 := (gI_ne (by decide)).trans h0
      have y2 : fI (setI x o 1 (nI (p + 1))) o 2 = nI st := (gI_ne (by decide)).trans hs
      have Fy := fy.fi hF
      generalize setI x o 1 (nI (p + 1)) = y at *
      have bad : k = 9 ∧ 1 < T p ∨ 0 < k ∧ T p = 0 → j_Src_readVarint_81 post o (lN a) (nI k) (nI (T p)) y := fun z => by
        have e : vrF T st (d + 1) k a p = .error 2 := by simp only [vrF]; rw [if_neg (by omega), if_pos z]
        unfold j_Src_readVarint_81
        exact nm_e (pe 2 _ e (Fg.trans fy (Fg.i ⟨rfl, by decide⟩)) ⟨gI_at, by decide, by decide⟩)
      have good : ¬ (k = 9 ∧ 1 < T p ∨ 0 < k ∧ T p = 0) → j_Src_readVarint_88 post (wl_Src_readVarint_4 post (d + 1)) o (lN a) (nI k) (nI (T p)) y := fun z => by
        have e7 : 2 ^ (7 * (k + 1)) = 2 ^ (7 * k) * 128 := by rw [Nat.mul_add, Nat.pow_add]
        have lt : a + T p % 128 * 2 ^ (7 * k) < 2 ^ (7 * (k + 1)) := by
          have := Nat.mul_le_mul_right (2 ^ (7 * k)) (show T p % 128 ≤ 127 by omega)
          rw [e7]; omega
        have lt64 : a + T p % 128 * 2 ^ (7 * k) < 2 ^ 64 := by
          by_cases c9 : k = 9
          · have t1 : T p ≤ 1 := Nat.not_lt.mp (fun w => z (Or.inl ⟨c9, w⟩))
            rw [c9] at ha ⊢
            have := Nat.mul_le_mul_right (2 ^ (7 * 9)) (show T p % 128 ≤ 1 by omega)
            have e : 2 ^ (7 * 9) = 9223372036854775808 := by decide
            omega
          · have : 2 ^ (7 * (k + 1)) ≤ 2 ^ 63 := Nat.pow_le_pow_right (by decide) (by omega)
            have e : 2 ^ 63 < 2 ^ 64 := by decide
            omega
        have ev : lN a ||| (((nI (T p) &&& 127) : Int32).toInt64 <<< (((7 * nI k) : Int32).toInt64 &&& 63)) = lN (a + T p % 128 * 2 ^ (7 * k)) := by
          have e1 : nI (T p) &&& 127 = nI (T p % 128) := nI_127 _ hT
          rw [e1, nI_l (by omega), show (7 : Int32) * nI k = nI (7 * k) from by rw [show (7 : Int32) = nI 7 from rfl, nI_mul], wb_shl _ (by omega)]
          exact g_or' (k := 7 * k) rfl ha lt64
        unfold j_Src_readVarint_88
        refine nm_r ev ?_
        by_cases c3 : T p < 128
        · refine br_f (by (first | omega | (simp (disch := omega) only [Int32.le_iff_toInt_le, Int32.lt_iff_toInt_lt, z_eq, z_in, nI_toInt, z_cl, z_m1, z_sg, z_255, Int32.reduceToInt] <;> omega) | (simp only [Int32.le_iff_toInt_le, Int32.lt_iff_toInt_lt, z_eq, z_in, z_add, z_sub, z_mul, z_neg, z_nI, z_cl, z_sg, z_255, z_lit, Int32.reduceToInt] <;> omega))) ?_
          exact pk _ _ y (by simp only [vrF]; rw [if_neg (by omega), if_neg z, if_pos c3]) fy y1 y3
        · refine br_t (by (first | omega | (simp (disch := omega) only [Int32.le_iff_toInt_le, Int32.lt_iff_toInt_lt, z_eq, z_in, nI_toInt, z_cl, z_m1, z_sg, z_255, Int32.reduceToInt] <;> omega) | (simp only [Int32.le_iff_toInt_le, Int32.lt_iff_toInt_lt, z_eq, z_in, z_add, z_sub, z_mul, z_neg, z_nI, z_cl, z_sg, z_255, z_lit, Int32.reduceToInt] <;> omega))) ?_
          rw [nI_1]
          have hd : 1 ≤ d := by
            rcases Nat.eq_zero_or_pos d with w | w
            · exact absurd (Or.inl ⟨by omega, by omega⟩) z
            · exact w
          have e : vrF T st (d + 1) k a p = vrF T st d (k + 1) (a + T p % 128 * 2 ^ (7 * k)) (p + 1) := by simp only [vrF]; rw [if_neg (by omega), if_neg z, if_neg c3]
          exact ih (k + 1) _ (p + 1) y Fy y3 y1 y2 (by omega) (by omega) hd lt (fun e' w w1 w2 w3 => pe e' w (e.trans w1) (Fg.trans fy w2) w3) (fun v q w w1 w2 w3 w4 => pk v q w (e.trans w1) (Fg.trans fy w2) w3 w4)
      have mid : ¬ (k = 9 ∧ 1 < T p) → j_Src_readVarint_72 post (wl_Src_readVarint_4 post (d + 1)) o (lN a) (nI k) (nI (T p)) y := fun z => by
        unfold j_Src_readVarint_72
        by_cases ck : k = 0
        · exact br_t (by rw [ck]; decide) (good (fun w => by omega))
        · refine br_f (by (first | omega | (simp (disch := omega) only [Int32.le_iff_toInt_le, Int32.lt_iff_toInt_lt, z_eq, z_in, nI_toInt, z_cl, z_m1, z_sg, z_255, Int32.reduceToInt] <;> omega) | (simp only [Int32.le_iff_toInt_le, Int32.lt_iff_toInt_lt, z_eq, z_in, z_add, z_sub, z_mul, z_neg, z_nI, z_cl, z_sg, z_255, z_lit, Int32.reduceToInt] <;> omega))) ?_
          by_cases c0 : T p = 0
          · exact ⟨fun w => absurd (by rw [c0]; rfl) w, fun _ => bad (Or.inr ⟨by omega, c0⟩)⟩
          · exact ⟨fun _ => good (fun w => by omega), fun w => absurd (nI_inj (b := 0) (by omega) (by decide) w) c0⟩
      by_cases c9 : k = 9
      · refine ⟨fun w => absurd (by rw [c9]; rfl) w, fun _ => ?_⟩
        by_cases c1 : 1 < T p
        · exact br_t (by (first | omega | (simp (disch := omega) only [Int32.le_iff_toInt_le, Int32.lt_iff_toInt_lt, z_eq, z_in, nI_toInt, z_cl, z_m1, z_sg, z_255, Int32.reduceToInt] <;> omega) | (simp only [Int32.le_iff_toInt_le, Int32.lt_iff_toInt_lt, z_eq, z_in, z_add, z_sub, z_mul, z_neg, z_nI, z_cl, z_sg, z_255, z_lit, Int32.reduceToInt] <;> omega))) (bad (Or.inl ⟨c9, c1⟩))
        · exact br_f (by (first | omega | (simp (disch := omega) only [Int32.le_iff_toInt_le, Int32.lt_iff_toInt_lt, z_eq, z_in, nI_toInt, z_cl, z_m1, z_sg, z_255, Int32.reduceToInt] <;> omega) | (simp only [Int32.le_iff_toInt_le, Int32.lt_iff_toInt_lt, z_eq, z_in, z_add, z_sub, z_mul, z_neg, z_nI, z_cl, z_sg, z_255, z_lit, Int32.reduceToInt] <;> omega))) (mid (fun w => c1 w.2))
      · exact ⟨fun _ => mid (fun w => c9 w.1), fun w => absurd (nI_inj (b := 9) (by omega) (by decide) w) c9⟩
    · refine br_f (by (first | omega | (simp (disch := omega) only [Int32.le_iff_toInt_le, Int32.lt_iff_toInt_lt, z_eq, z_in, nI_toInt, z_cl, z_m1, z_sg, z_255, Int32.reduceToInt] <;> omega) | (simp only [Int32.le_iff_toInt_le, Int32.lt_iff_toInt_lt, z_eq, z_in, z_add, z_sub, z_mul, z_neg, z_nI, z_cl, z_sg, z_255, z_lit, Int32.reduceToInt] <;> omega))) (nm_e ?_)
      have e : vrF T st (d + 1) k a p = .error 1 := by simp only [vrF]; rw [if_pos (by omega)]
      exact pe 1 _ e (Fg.i ⟨rfl, by decide⟩) ⟨gI_at, by decide, by decide⟩
theorem k_vrd {post : Int64 → St → Prop} (ho : SrO o) (hF : FiC x T n) (h0 : fI x o 3 = 0) (hp : fI x o 1 = nI p) (hs : fI x o 2 = nI st) (hps : p ≤ st) (hst : st ≤ n) (pe : ∀ e y, vrd T st p = .error e → FrSr o x y → FlC o y e → post 0 y) (pk : ∀ v q y, vrd T st p = .ok (v, q) → FrSr o x y → fI y o 1 = nI q → fI y o 3 = 0 → post (lN v) y) : wp_Src_readVarint post o x :=
  ⟨11, k_vrdL ho hst 10 0 0 p x hF h0 hp hs hps rfl (by decide) (by decide) pe pk⟩
theorem k_vrd0 {post : Int64 → St → Prop} (h0 : ¬ fI x o 3 = 0) (p : post 0 x) : wp_Src_readVarint post o x := ⟨1, by
  unfold wl_Src_readVarint_4 j_Src_readVarint_4 j_Src_readVarint_118
  exact ⟨fun _ => p, fun _ => ⟨fun _ => p, fun z => absurd z h0⟩⟩⟩
theorem k_byte0 {post : Int32 → St → Prop} (h0 : ¬ fI x o 3 = 0) (p : post 0 x) : wp_Src_readByte post o x := by
  unfold wp_Src_readByte j_Src_readByte_23
  exact ⟨fun _ => ⟨fun z => absurd z h0, fun _ => p⟩, fun z => absurd z h0⟩
theorem fx1 : fxV T p 1 = T p := by show 0 + T (p + 0) * 256 ^ 0 = T p; rw [Nat.add_zero]; omega
theorem k_byte {post : Int32 → St → Prop} (ho : SrO o) (hF : FiC x T n) (h0 : fI x o 3 = 0) (hp : fI x o 1 = nI p) (hs : fI x o 2 = nI st) (hps : p ≤ st) (hst : st ≤ n) (pe : ∀ e y, fxd T 1 st p = .error e → FrSr o x y → FlC o y e → post 0 y) (pk : ∀ q y, fxd T 1 st p = .ok (T p, q) → FrSr o x y → fI y o 1 = nI q → fI y o 3 = 0 → p < st → post (nI (T p)) y) : wp_Src_readByte post o x := by
  have hn := hF.2.1
  unfold wp_Src_readByte
  refine ⟨fun z => absurd h0 z, fun _ => ?_⟩
  rw [hp, hs]
  by_cases c : p < st
  · have e : fxd T 1 st p = .ok (T p, p + 1) := by unfold fxd; rw [if_neg (by omega), fx1]
    refine br_t (by (first | omega | (simp (disch := omega) only [Int32.le_iff_toInt_le, Int32.lt_iff_toInt_lt, z_eq, z_in, nI_toInt, z_cl, z_m1, z_sg, z_255, Int32.reduceToInt] <;> omega) | (simp only [Int32.le_iff_toInt_le, Int32.lt_iff_toInt_lt, z_eq, z_in, z_add, z_sub, z_mul, z_neg, z_nI, z_cl, z_sg, z_255, z_lit, Int32.reduceToInt] <;> omega))) ?_
    unfold j_Src_readByte_23
    refine br_t h0 (nm_e ?_)
    rw [hp, nI_1]
    have fy : FrSr o x (setI x o 1 (nI (p + 1))) := Fg.i ⟨rfl, by decide⟩
    rw [show fI (setI x o 1 (nI (p + 1))) o 1 - 1 = nI p from by rw [gI_at, show (1 : Int32) = nI 1 from rfl, nI_sub (by omega)]; rfl, ho.st]
    obtain ⟨b1, -, b3⟩ := (fy.fi hF).by (i := p) (by omega)
    refine ⟨b3, ?_⟩
    rw [b1]
    exact pk _ _ e fy gI_at ((gI_ne (by decide)).trans h0) c
  · have e : fxd T 1 st p = .error 1 := by unfold fxd; rw [if_pos (by omega)]
    refine br_f (by (first | omega | (simp (disch := omega) only [Int32.le_iff_toInt_le, Int32.lt_iff_toInt_lt, z_eq, z_in, nI_toInt, z_cl, z_m1, z_sg, z_255, Int32.reduceToInt] <;> omega) | (simp only [Int32.le_iff_toInt_le, Int32.lt_iff_toInt_lt, z_eq, z_in, z_add, z_sub, z_mul, z_neg, z_nI, z_cl, z_sg, z_255, z_lit, Int32.reduceToInt] <;> omega))) (nm_e ?_)
    have fl : FlC o (setI x o 3 1) 1 := ⟨gI_at, by decide, by decide⟩
    unfold j_Src_readByte_23
    exact br_f fl.ne (pe 1 _ e (Fg.i ⟨rfl, by decide⟩) fl)
theorem k_fxd0 {post : Int64 → St → Prop} {m : Int32} (h0 : ¬ fI x o 3 = 0) (p : post 0 x) : wp_Src_readFixed post o m x := by
  unfold wp_Src_readFixed j_Src_readFixed_25
  exact ⟨fun _ => ⟨fun z => absurd z h0, fun _ => p⟩, fun z => absurd z h0⟩
theorem fxV_bd (hT : ∀ i, T i < 256) : ∀ m, fxV T p m < 256 ^ m := fun m => fxV_lt hT m
theorem k_fxd {post : Int64 → St → Prop} {m : Nat} (ho : SrO o) (hF : FiC x T n) (h0 : fI x o 3 = 0) (hp : fI x o 1 = nI p) (hs : fI x o 2 = nI st) (hps : p ≤ st) (hst : st ≤ n) (hm : m ≤ 8) (pe : ∀ e y, fxd T m st p = .error e → FrSr o x y → FlC o y e → post 0 y) (pk : ∀ v q y, fxd T m st p = .ok (v, q) → FrSr o x y → fI y o 1 = nI q → fI y o 3 = 0 → post (lN v) y) : wp_Src_readFixed post o (nI m) x := by
  have hn := hF.2.1
  unfold wp_Src_readFixed
  refine ⟨fun z => absurd h0 z, fun _ => ?_⟩
  rw [hp, hs, nI_sub hps]
  by_cases c : st < p + m
  · have e : fxd T m st p = .error 1 := if_pos c
    refine br_f (by (first | omega | (simp (disch := omega) only [Int32.le_iff_toInt_le, Int32.lt_iff_toInt_lt, z_eq, z_in, nI_toInt, z_cl, z_m1, z_sg, z_255, Int32.reduceToInt] <;> omega) | (simp only [Int32.le_iff_toInt_le, Int32.lt_iff_toInt_lt, z_eq, z_in, z_add, z_sub, z_mul, z_neg, z_nI, z_cl, z_sg, z_255, z_lit, Int32.reduceToInt] <;> omega))) (nm_e ?_)
    have fl : FlC o (setI x o 3 1) 1 := ⟨gI_at, by decide, by decide⟩
    unfold j_Src_readFixed_25
    exact br_f fl.ne (pe 1 _ e (Fg.i ⟨rfl, by decide⟩) fl)
  · have e : fxd T m st p = .ok (fxV T p m, p + m) := if_neg c
    refine br_t (by (first | omega | (simp (disch := omega) only [Int32.le_iff_toInt_le, Int32.lt_iff_toInt_lt, z_eq, z_in, nI_toInt, z_cl, z_m1, z_sg, z_255, Int32.reduceToInt] <;> omega) | (simp only [Int32.le_iff_toInt_le, Int32.lt_iff_toInt_lt, z_eq, z_in, z_add, z_sub, z_mul, z_neg, z_nI, z_cl, z_sg, z_255, z_lit, Int32.reduceToInt] <;> omega))) ?_
    unfold j_Src_readFixed_25
    refine br_t h0 ?_
    refine lp_Src_readFixed_39 (fun a0 a1 a2 a3 y => o = a0 ∧ nI m = a1 ∧ x = y ∧ ∃ k, nI k = a3 ∧ k ≤ m ∧ lN (fxV T p k) = a2) (fun _ _ _ a3 _ => m - a3.toNatClampNeg) ?_ _ _ _ _ _ ⟨rfl, rfl, rfl, 0, rfl, Nat.zero_le _, rfl⟩
    rintro Q a0 a1 a2 a3 y ⟨rfl, rfl, rfl, k, rfl, k1, rfl⟩ ih
    unfold j_Src_readFixed_39
    rw [hp, ho.st]
    by_cases ck : k < m
    · have hT := hF.2.2.1 (p + k)
      obtain ⟨-, b2, b3⟩ := hF.by (i := p + k) (by omega)
      rw [nI_add p k]
      refine br_f (by (first | omega | (simp (disch := omega) only [Int32.le_iff_toInt_le, Int32.lt_iff_toInt_lt, z_eq, z_in, nI_toInt, z_cl, z_m1, z_sg, z_255, Int32.reduceToInt] <;> omega) | (simp only [Int32.le_iff_toInt_le, Int32.lt_iff_toInt_lt, z_eq, z_in, z_add, z_sub, z_mul, z_neg, z_nI, z_cl, z_sg, z_255, z_lit, Int32.reduceToInt] <;> omega))) ⟨b3, nm_r (e' := lN (fxV T p (k + 1))) ?_ ?_⟩
      · have l1 := fxV_lt (p := p) hF.2.2.1 k
        have l2 := fxV_lt (p := p) hF.2.2.1 (k + 1)
        have l3 : 256 ^ (k + 1) ≤ 256 ^ 8 := Nat.pow_le_pow_right (by decide) (by omega)
        have e8 : 256 ^ 8 = 2 ^ 64 := by decide
        have e2 : 2 ^ (8 * k) = 256 ^ k := by rw [Nat.pow_mul]
        rw [b2, show (8 : Int32) * nI k = nI (8 * k) from by rw [show (8 : Int32) = nI 8 from rfl, nI_mul], wb_shl _ (by omega), e2]
        exact g_or' (k := 8 * k) e2 l1 (by show fxV T p (k + 1) < _; omega)
      · rw [nI_1]
        exact ih _ _ _ _ _ ⟨rfl, rfl, rfl, k + 1, rfl, ck, rfl⟩ (by rw [nI_clamp (by omega), nI_clamp (by omega)]; omega)
    · have ek : k = m := by omega
      subst ek
      refine br_t (by (first | omega | (simp (disch := omega) only [Int32.le_iff_toInt_le, Int32.lt_iff_toInt_lt, z_eq, z_in, nI_toInt, z_cl, z_m1, z_sg, z_255, Int32.reduceToInt] <;> omega) | (simp only [Int32.le_iff_toInt_le, Int32.lt_iff_toInt_lt, z_eq, z_in, z_add, z_sub, z_mul, z_neg, z_nI, z_cl, z_sg, z_255, z_lit, Int32.reduceToInt] <;> omega))) (nm_e ?_)
      rw [nI_add]
      exact pk _ _ _ e (Fg.i ⟨rfl, by decide⟩) gI_at ((gI_ne (by decide)).trans h0)
theorem k_has0 {post : Int32 → St → Prop} {m : Int64} (h0 : ¬ fI x o 3 = 0) (q : post 0 x) : wp_Src_has post o m x := by
  unfold wp_Src_has j_Src_has_33
  exact ⟨fun _ => ⟨fun _ => q, fun z => absurd z h0⟩, fun z => absurd z h0⟩
theorem k_has {post : Int32 → St → Prop} {m : Nat} (hm : m < 2 ^ 64) (h0 : fI x o 3 = 0) (hp : fI x o 1 = nI p) (hs : fI x o 2 = nI st) (hps : p ≤ st) (hst : st ≤ 2 ^ 30) (pe : st < p + m → post 0 (setI x o 3 1)) (pk : p + m ≤ st → post 1 x) : wp_Src_has post o (lN m) x := by
  unfold wp_Src_has
  refine ⟨fun z => absurd h0 z, fun _ => ?_⟩
  rw [hp, hs, nI_sub hps]
  refine oob_tests (post := True) hm (show (nI (st - p)).toInt64 = lN (st - p) from nI_l (by omega)) (by omega) (fun c => ?_) (fun c => ?_)
  · unfold j_Src_has_28 j_Src_has_33
    refine nm_e ⟨fun _ => pe (by omega), fun z => ?_⟩
    rw [show fI (setI x o 3 1) o 3 = 1 from gI_at] at z
    exact absurd z (by decide)
  · unfold j_Src_has_33
    exact ⟨fun z => absurd h0 z, fun _ => pk (by omega)⟩
theorem k_narrow {post : Int32 → St → Prop} {m : Nat} (hm : m < 2 ^ 64) (h0 : fI x o 3 = 0) (hp : fI x o 1 = nI p) (hs : fI x o 2 = nI st) (hps : p ≤ st) (hst : st ≤ 2 ^ 30) (pe : st < p + m → post (nI st) (setI x o 3 1)) (pk : p + m ≤ st → post (nI st) (setI x o 2 (nI (p + m)))) : wp_Src_narrow post o (lN m) x := by
  unfold wp_Src_narrow j_Src_narrow_24
  refine nm_r hs ?_
  refine k_has hm h0 hp hs hps hst (fun c => br_t rfl (pe c)) (fun c => br_f (by decide) (nm_e ?_))
  rw [hp, lN_i, nI_add]
  exact pk c
theorem k_narrow0 {post : Int32 → St → Prop} {m : Int64} (h0 : ¬ fI x o 3 = 0) (q : post (fI x o 2) x) : wp_Src_narrow post o m x := by
  unfold wp_Src_narrow j_Src_narrow_24
  exact nm_e (k_has0 h0 (br_t rfl q))
theorem k_end {post : St → Prop} (h0 : fI x o 3 = 0) (hp : fI x o 1 = nI p) (hs : fI x o 2 = nI st) (hps : p ≤ st) (hst : st < 2 ^ 30) (pe : p < st → post (setI x o 3 6)) (pk : p = st → post x) : wp_Src_checkEnd post o x := by
  unfold wp_Src_checkEnd j_Src_checkEnd_17
  rw [hp, hs]
  by_cases c : p = st
  · exact bn_t (by rw [c]) (k_ck1 (pk c))
  · exact bn_f (fun z => c (nI_inj (by omega) (by omega) z)) (k_ck0 h0 (pe (by omega)))
theorem k_end0 {post : St → Prop} (h0 : ¬ fI x o 3 = 0) (q : post x) : wp_Src_checkEnd post o x := by
  unfold wp_Src_checkEnd j_Src_checkEnd_17
  exact ⟨fun _ => k_ckf h0 q, fun _ => k_ckf h0 q⟩
theorem xor_m1 (a : Int64) : a ^^^ (-1) = -a - 1 := by
  apply Int64.toBitVec_inj.mp
  rw [Int64.toBitVec_xor, show (-1 : Int64).toBitVec = BitVec.allOnes 64 from rfl, Int64.toBitVec_sub, Int64.toBitVec_neg, show (1 : Int64).toBitVec = 1#64 from rfl, BitVec.xor_allOnes, BitVec.neg_eq_not_add, BitVec.add_sub_cancel]
theorem k_uz {post : Int64 → St → Prop} {v : Nat} (hv : v < 2 ^ 64) (k : post (uz v) x) : wp_V_unzigzag post (lN v) x := by
  unfold wp_V_unzigzag
  rw [wb_a1 hv, show ((lN v : Int64).toUInt64 >>> ((1 : Int32).toInt64.toUInt64 &&& Int64.toUInt64 63)).toInt64 = lN (v / 2) from wb_shr (k := 1) hv (by decide)]
  unfold uz at k
  by_cases c : v % 2 = 0
  · rw [if_pos c] at k
    rw [c, show -(lN 0) = 0 from rfl, Int64.xor_zero]
    exact k
  · rw [if_neg c] at k
    rw [show v % 2 = 1 by omega, show -(lN 1) = -1 from rfl, xor_m1]
    exact k
end
