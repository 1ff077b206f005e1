/-! the model reads -/
def FiM (x : St) (T : Nat → Nat) (n : Nat) : Prop := LM x ∧ n ≤ 40000 ∧ (∀ i, T i < 256) ∧ ∀ i, i < n → fA x 41 i = nI (T i)
abbrev FrRd (x y : St) : Prop := Fg (fun o k => o = 0 ∧ (k = 67 ∨ k = 69)) no2 no2 no1 no1 x y
def Flt (y : St) (e : Nat) : Prop := fI y 0 69 = nI e ∧ 0 < e ∧ e < 100
theorem Flt.ne {y : St} {e : Nat} (h : Flt y e) : ¬ fI y 0 69 = 0 := fun z => by
  rw [h.1] at z
  have := nI_inj (b := 0) (by have := h.2.2; omega) (by decide) z
  have := h.2.1
  omega
theorem nI_127 : ∀ m, m < 256 → nI m &&& 127 = nI (m % 128) := by decide +kernel
theorem nI_am1 {v : Int32} : v + (-1) = v - 1 := by rw [Int32.sub_eq_add_neg]
section
variable {x : St} {T : Nat → Nat} {n st p : Nat}
theorem FiM.cg {y : St} (h : FiM x T n) (e1 : fA y 41 = fA x 41) (e2 : ∀ o, fN y o = fN x o) : FiM y T n := ⟨fun o => (e2 o).trans (h.1 o), h.2.1, h.2.2.1, fun i hi => by rw [e1]; exact h.2.2.2 i hi⟩
theorem FrRd.fi {y : St} (f : FrRd x y) (h : FiM x T n) : FiM y T n := h.cg (f.2.2.2.1 41 id) (fun o => by show y.2.2.2.2.2 o = _; rw [f.2.2.2.2.2])
theorem s_vrdL {post : Int64 → St → Prop} (hst : st ≤ n) : ∀ d k a p (x : St), FiM x T n → fI x 0 69 = 0 → fI x 0 67 = nI p → p ≤ st → k + d = 10 → 1 ≤ d → a < 2 ^ (7 * k) →
    (∀ e y, vrF T st d k a p = .error e → FrRd x y → Flt y e → post 0 y) → (∀ v q y, vrF T st d k a p = .ok (v, q) → FrRd x y → fI y 0 67 = nI q → fI y 0 69 = 0 → post (lN v) y) → wl_Mod_varint_5 post (d + 1) (nI st) (lN a) (nI k) x := by
  intro d
  induction d with
  | zero => intro k a p x _ _ _ _ _ h; omega
  | succ d ih =>
    intro k a p x hF h0 hp hps hk _ ha pe pk
    have hn := hF.2.1
    have e41 : fN x 41 = 40000 := hF.1 41
    have stop : ∀ (y : St) (a' : Int64) (k' : Int32) e, Flt y e → vrF T st (d + 1) k a p = .error e → FrRd x y → wl_Mod_varint_5 post (d + 1) (nI st) a' k' y := fun y a' k' e hf he hy => by
      unfold wl_Mod_varint_5 j_Mod_varint_5
      exact ⟨fun _ => pe e y he hy hf, fun z => absurd z hf.ne⟩
    unfold wl_Mod_varint_5 j_Mod_varint_5
    refine ⟨fun z => absurd h0 z, fun _ => ?_⟩
    rw [hp]
    by_cases c1 : p < st
    · have hT := hF.2.2.1 p
      refine br_t (by (first | omega | (simp (disch := omega) only [Int32.le_iff_toInt_le, Int32.lt_iff_toInt_lt, z_eq, z_in, nI_toInt, z_cl, z_m1, z_sg, z_255, Int32.reduceToInt] <;> omega) | (simp only [Int32.le_iff_toInt_le, Int32.lt_iff_toInt_lt, z_eq, z_in, z_add, z_sub, z_mul, z_neg, z_nI, z_cl, z_sg, z_255, z_lit, Int32.reduceToInt] <;> omega))) ⟨vp_in_nI (by omega) (by omega), ?_⟩
      rw [rA_nI (by omega), hF.2.2.2 p (by omega), nI_1]
      refine nm_e (nm_e ?_)
      have fy : FrRd x (setI x 0 67 (nI (p + 1))) := Fg.i ⟨rfl, by decide⟩
      have y67 : fI (setI x 0 67 (nI (p + 1))) 0 67 = nI (p + 1) := gI_at
      have y69 : fI (setI x 0 67 (nI (p + 1))) 0 69 = 0 := (gI_ne (by decide)).trans h0
      have Fy := fy.fi hF
      generalize setI x 0 67 (nI (p + 1)) = y at *
      have bad : k = 9 ∧ 1 < T p ∨ 0 < k ∧ T p = 0 → j_Mod_varint_72 post (wl_Mod_varint_5 post (d + 1)) (nI st) (lN a) (nI k) (nI (T p)) y := fun z => by
        have e : vrF T st (d + 1) k a p = .error 2 := by simp only [vrF]; rw [if_neg (by omega), if_pos z]
        unfold j_Mod_varint_72 j_Mod_varint_108
        exact nm_e (stop _ _ _ 2 ⟨gI_at, by decide, by decide⟩ e (Fg.trans fy (Fg.i ⟨rfl, by decide⟩)))
      have good : ¬ (k = 9 ∧ 1 < T p ∨ 0 < k ∧ T p = 0) → j_Mod_varint_80 post (wl_Mod_varint_5 post (d + 1)) (nI st) (lN a) (nI k) (nI (T p)) y := fun z => by
        have e7 : 2 ^ (7 * (k + 1)) = 2 ^ (7 * k) * 128 := by rw [Nat.mul_add, Nat.pow_add]
        have lt : a + T p % 128 * 2 ^ (7 * k) < 2 ^ (7 * (k + 1)) := by
          have := Nat.mul_le_mul_right (2 ^ (7 * k)) (show T p % 128 ≤ 127 by omega)
          rw [e7]; omega
        have lt64 : a + T p % 128 * 2 ^ (7 * k) < 2 ^ 64 := by
          by_cases c9 : k = 9
          · have t1 : T p ≤ 1 := Nat.not_lt.mp (fun w => z (Or.inl ⟨c9, w⟩))
            rw [c9] at ha ⊢
            have := Nat.mul_le_mul_right (2 ^ (7 * 9)) (show T p % 128 ≤ 1 by omega)
            have e : 2 ^ (7 * 9) = 9223372036854775808 := by decide
            omega
          · have : 2 ^ (7 * (k + 1)) ≤ 2 ^ 63 := Nat.pow_le_pow_right (by decide) (by omega)
            have e : 2 ^ 63 < 2 ^ 64 := by decide
            omega
        have ev : lN a ||| (((nI (T p) &&& 127) : Int32).toInt64 <<< (((7 * nI k) : Int32).toInt64 &&& 63)) = lN (a + T p % 128 * 2 ^ (7 * k)) := by
          have e1 : nI (T p) &&& 127 = nI (T p % 128) := nI_127 _ hT
          rw [e1, nI_l (by omega), show (7 : Int32) * nI k = nI (7 * k) from by rw [show (7 : Int32) = nI 7 from rfl, nI_mul], wb_shl _ (by omega)]
          exact g_or' (k := 7 * k) rfl ha lt64
        unfold j_Mod_varint_80
        refine nm_r ev ?_
        by_cases c3 : T p < 128
        · refine br_f (by (first | omega | (simp (disch := omega) only [Int32.le_iff_toInt_le, Int32.lt_iff_toInt_lt, z_eq, z_in, nI_toInt, z_cl, z_m1, z_sg, z_255, Int32.reduceToInt] <;> omega) | (simp only [Int32.le_iff_toInt_le, Int32.lt_iff_toInt_lt, z_eq, z_in, z_add, z_sub, z_mul, z_neg, z_nI, z_cl, z_sg, z_255, z_lit, Int32.reduceToInt] <;> omega))) ?_
          exact pk _ _ y (by simp only [vrF]; rw [if_neg (by omega), if_neg z, if_pos c3]) fy y67 y69
        · refine br_t (by (first | omega | (simp (disch := omega) only [Int32.le_iff_toInt_le, Int32.lt_iff_toInt_lt, z_eq, z_in, nI_toInt, z_cl, z_m1, z_sg, z_255, Int32.reduceToInt] <;> omega) | (simp only [Int32.le_iff_toInt_le, Int32.lt_iff_toInt_lt, z_eq, z_in, z_add, z_sub, z_mul, z_neg, z_nI, z_cl, z_sg, z_255, z_lit, Int32.reduceToInt] <;> omega))) ?_
          unfold j_Mod_varint_108
          rw [nI_1]
          have hd : 1 ≤ d := by
            rcases Nat.eq_zero_or_pos d with w | w
            · exact absurd (Or.inl ⟨by omega, by omega⟩) z
            · exact w
          have e : vrF T st (d + 1) k a p = vrF T st d (k + 1) (a + T p % 128 * 2 ^ (7 * k)) (p + 1) := by simp only [vrF]; rw [if_neg (by omega), if_neg z, if_neg c3]
          exact ih (k + 1) _ (p + 1) y Fy y69 y67 (by omega) (by omega) hd lt (fun e' w w1 w2 w3 => pe e' w (e.trans w1) (Fg.trans fy w2) w3) (fun v q w w1 w2 w3 w4 => pk v q w (e.trans w1) (Fg.trans fy w2) w3 w4)
      have mid : ¬ (k = 9 ∧ 1 < T p) → j_Mod_varint_62 post (wl_Mod_varint_5 post (d + 1)) (nI st) (lN a) (nI k) (nI (T p)) y := fun z => by
        unfold j_Mod_varint_62
        by_cases ck : k = 0
        · exact br_t (by rw [ck]; decide) (good (fun w => by omega))
        · refine br_f (by (first | omega | (simp (disch := omega) only [Int32.le_iff_toInt_le, Int32.lt_iff_toInt_lt, z_eq, z_in, nI_toInt, z_cl, z_m1, z_sg, z_255, Int32.reduceToInt] <;> omega) | (simp only [Int32.le_iff_toInt_le, Int32.lt_iff_toInt_lt, z_eq, z_in, z_add, z_sub, z_mul, z_neg, z_nI, z_cl, z_sg, z_255, z_lit, Int32.reduceToInt] <;> omega))) ?_
          by_cases c0 : T p = 0
          · exact ⟨fun w => absurd (by rw [c0]; rfl) w, fun _ => bad (Or.inr ⟨by omega, c0⟩)⟩
          · exact ⟨fun _ => good (fun w => by omega), fun w => absurd (nI_inj (b := 0) (by omega) (by decide) w) c0⟩
      by_cases c9 : k = 9
      · refine ⟨fun w => absurd (by rw [c9]; rfl) w, fun _ => ?_⟩
        by_cases c1 : 1 < T p
        · exact br_t (by (first | omega | (simp (disch := omega) only [Int32.le_iff_toInt_le, Int32.lt_iff_toInt_lt, z_eq, z_in, nI_toInt, z_cl, z_m1, z_sg, z_255, Int32.reduceToInt] <;> omega) | (simp only [Int32.le_iff_toInt_le, Int32.lt_iff_toInt_lt, z_eq, z_in, z_add, z_sub, z_mul, z_neg, z_nI, z_cl, z_sg, z_255, z_lit, Int32.reduceToInt] <;> omega))) (bad (Or.inl ⟨c9, c1⟩))
        · exact br_f (by (first | omega | (simp (disch := omega) only [Int32.le_iff_toInt_le, Int32.lt_iff_toInt_lt, z_eq, z_in, nI_toInt, z_cl, z_m1, z_sg, z_255, Int32.reduceToInt] <;> omega) | (simp only [Int32.le_iff_toInt_le, Int32.lt_iff_toInt_lt, z_eq, z_in, z_add, z_sub, z_mul, z_neg, z_nI, z_cl, z_sg, z_255, z_lit, Int32.reduceToInt] <;> omega))) (mid (fun w => c1 w.2))
      · exact ⟨fun _ => mid (fun w => c9 w.1), fun w => absurd (nI_inj (b := 9) (by omega) (by decide) w) c9⟩
    · refine br_f (by (first | omega | (simp (disch := omega) only [Int32.le_iff_toInt_le, Int32.lt_iff_toInt_lt, z_eq, z_in, nI_toInt, z_cl, z_m1, z_sg, z_255, Int32.reduceToInt] <;> omega) | (simp only [Int32.le_iff_toInt_le, Int32.lt_iff_toInt_lt, z_eq, z_in, z_add, z_sub, z_mul, z_neg, z_nI, z_cl, z_sg, z_255, z_lit, Int32.reduceToInt] <;> omega))) (nm_e ?_)
      have e : vrF T st (d + 1) k a p = .error 1 := by simp only [vrF]; rw [if_pos (by omega)]
      exact stop _ _ _ 1 ⟨gI_at, by decide, by decide⟩ e (Fg.i ⟨rfl, by decide⟩)
theorem s_vrd {post : Int64 → St → Prop} (hF : FiM x T n) (h0 : fI x 0 69 = 0) (hp : fI x 0 67 = nI p) (hps : p ≤ st) (hst : st ≤ n) (pe : ∀ e y, vrd T st p = .error e → FrRd x y → Flt y e → post 0 y) (pk : ∀ v q y, vrd T st p = .ok (v, q) → FrRd x y → fI y 0 67 = nI q → fI y 0 69 = 0 → post (lN v) y) : wp_Mod_varint post (nI st) x :=
  ⟨11, s_vrdL hst 10 0 0 p x hF h0 hp hps rfl (by decide) (by decide) pe pk⟩
theorem s_vrd0 {post : Int64 → St → Prop} {l : Int32} (h0 : ¬ fI x 0 69 = 0) (p : post 0 x) : wp_Mod_varint post l x := ⟨1, by unfold wl_Mod_varint_5 j_Mod_varint_5; exact ⟨fun _ => p, fun z => absurd z h0⟩⟩
theorem s_fxd {post : Int64 → St → Prop} {m : Nat} (hF : FiM x T n) (h0 : fI x 0 69 = 0) (hp : fI x 0 67 = nI p) (hps : p ≤ st) (hst : st ≤ n) (hm : m ≤ 8) (pe : ∀ e y, fxd T m st p = .error e → FrRd x y → Flt y e → post 0 y) (pk : ∀ v q y, fxd T m st p = .ok (v, q) → FrRd x y → fI y 0 67 = nI q → fI y 0 69 = 0 → post (lN v) y) : wp_Mod_fixed post (nI m) (nI st) x := by
  have hn := hF.2.1
  have e41 : fN x 41 = 40000 := hF.1 41
  unfold wp_Mod_fixed
  refine ⟨fun z => absurd h0 z, fun _ => ?_⟩
  rw [hp, nI_sub hps]
  by_cases c : st < p + m
  · refine br_f (by (first | omega | (simp (disch := omega) only [Int32.le_iff_toInt_le, Int32.lt_iff_toInt_lt, z_eq, z_in, nI_toInt, z_cl, z_m1, z_sg, z_255, Int32.reduceToInt] <;> omega) | (simp only [Int32.le_iff_toInt_le, Int32.lt_iff_toInt_lt, z_eq, z_in, z_add, z_sub, z_mul, z_neg, z_nI, z_cl, z_sg, z_255, z_lit, Int32.reduceToInt] <;> omega))) (nm_e ?_)
    have e : fxd T m st p = .error 1 := if_pos c
    unfold j_Mod_fixed_22
    have fl : Flt (setI x 0 69 1) 1 := ⟨gI_at, by decide, by decide⟩
    exact ⟨fun z => absurd z fl.ne, fun _ => pe 1 _ e (Fg.i ⟨rfl, by decide⟩) fl⟩
  · have e : fxd T m st p = .ok (fxV T p m, p + m) := if_neg c
    refine br_t (by (first | omega | (simp (disch := omega) only [Int32.le_iff_toInt_le, Int32.lt_iff_toInt_lt, z_eq, z_in, nI_toInt, z_cl, z_m1, z_sg, z_255, Int32.reduceToInt] <;> omega) | (simp only [Int32.le_iff_toInt_le, Int32.lt_iff_toInt_lt, z_eq, z_in, z_add, z_sub, z_mul, z_neg, z_nI, z_cl, z_sg, z_255, z_lit, Int32.reduceToInt] <;> omega))) ?_
    unfold j_Mod_fixed_22
    refine ⟨fun _ => ?_, fun z => absurd h0 z⟩
    have key : ∀ (j : Nat) (v : Nat), j ≤ m → v * 256 ^ j + fxV T p j = fxV T p m → v < 256 ^ (m - j) → wl_Mod_fixed_38 post (j + 1) (nI m) (nI st) (lN v) (nI j - 1) x := by
      intro j
      induction j with
      | zero =>
        intro v _ hv _
        unfold wl_Mod_fixed_38 j_Mod_fixed_38
        refine br_t (by decide) (nm_e ?_)
        rw [hp, nI_add]
        have ev : v = fxV T p m := by
          rw [← hv]
          show v = v * 1 + 0
          omega
        rw [ev]
        exact pk _ _ _ e (Fg.i ⟨rfl, by decide⟩) gI_at ((gI_ne (by decide)).trans h0)
      | succ j ih =>
        intro v hj hv hlt
        have hT := hF.2.2.1 (p + j)
        have p1 : 256 ^ (m - j) = 256 ^ (m - (j + 1)) * 256 := by rw [← Nat.pow_succ]; congr 1; omega
        have lt : v * 256 + T (p + j) < 256 ^ (m - j) := by
          rw [p1]
          have := Nat.mul_le_mul_right 256 (show v + 1 ≤ 256 ^ (m - (j + 1)) by omega)
          omega
        have lt64 : v * 256 + T (p + j) < 2 ^ 64 := by
          have : 256 ^ (m - j) ≤ 256 ^ 8 := Nat.pow_le_pow_right (by decide) (by omega)
          have e8 : 256 ^ 8 = 2 ^ 64 := by decide
          omega
        have vlt : v < 2 ^ 64 := by omega
        unfold wl_Mod_fixed_38 j_Mod_fixed_38
        rw [show nI (j + 1) - 1 = nI j from by rw [show (1 : Int32) = nI 1 from rfl, nI_sub (by omega)]; rfl]
        refine br_f (by (first | omega | (simp (disch := omega) only [Int32.le_iff_toInt_le, Int32.lt_iff_toInt_lt, z_eq, z_in, nI_toInt, z_cl, z_m1, z_sg, z_255, Int32.reduceToInt] <;> omega) | (simp only [Int32.le_iff_toInt_le, Int32.lt_iff_toInt_lt, z_eq, z_in, z_add, z_sub, z_mul, z_neg, z_nI, z_cl, z_sg, z_255, z_lit, Int32.reduceToInt] <;> omega))) ?_
        rw [hp, nI_add]
        refine ⟨vp_in_nI (by omega) (by omega), ?_⟩
        rw [rA_nI (by omega), hF.2.2.2 (p + j) (by omega), nI_l (by omega)]
        refine nm_r (e' := lN (v * 256 + T (p + j))) ?_ ?_
        · rw [show ((8 : Int32).toInt64 &&& 63) = ((nI 8).toInt64 &&& 63) from rfl, wb_shl _ (by decide)]
          exact g_or (k := 8) rfl (by omega) lt64
        · rw [nI_am1]
          refine ih _ (by omega) ?_ lt
          rw [← hv]
          show (v * 256 + T (p + j)) * 256 ^ j + fxV T p j = v * 256 ^ (j + 1) + (fxV T p j + T (p + j) * 256 ^ j)
          rw [Nat.add_mul, Nat.pow_succ, Nat.mul_assoc, Nat.mul_comm 256 (256 ^ j)]
          omega
    refine nm_e ⟨m + 1, ?_⟩
    exact key m 0 (Nat.le_refl _) (by omega) (Nat.pow_pos (by decide))
theorem s_fxd0 {post : Int64 → St → Prop} {l m : Int32} (h0 : ¬ fI x 0 69 = 0) (p : post 0 x) : wp_Mod_fixed post m l x := by
  unfold wp_Mod_fixed j_Mod_fixed_22
  exact ⟨fun _ => ⟨fun z => absurd z h0, fun _ => p⟩, fun z => absurd z h0⟩
end
