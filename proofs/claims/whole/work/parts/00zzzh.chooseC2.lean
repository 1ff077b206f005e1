/-! the class chooses a coding: the loop -/
def TB (t b : Nat) : Prop := t = 55 ∧ b = 58 ∨ t = 58 ∧ b = 55
theorem TB.sw {t b : Nat} (h : TB t b) : TB b t := by unfold TB at h ⊢; omega
theorem TB.ne {t b : Nat} (h : TB t b) : b ≠ t := by unfold TB at h; omega
theorem TB.t {t b : Nat} (h : TB t b) : t = 55 ∨ t = 58 := by unfold TB at h; omega
theorem TB.s {t b : Nat} (h : TB t b) : SnkId t := fb2 t h.t
theorem TB.room {t b : Nat} (h : TB t b) : roomOf t = 32000 := by
  unfold roomOf
  rw [if_pos h.t]
/-- what stands before a coding is tried: the best so far -/
def ChS (x : St) (t b ty : Nat) (V : Nat → Int64) (P : List PV) (c : Nat) : Prop := PgC x t ty V P ∧ Sz x ∧ fR x 45 3 = some b ∧ fI x t 5 = 0 ∧ fI x t 6 = 0 ∧ fI x b 5 = 0 ∧ fI x b 6 = 0 ∧ (¬ c = 0 → Snk x b (valB ty (bC ty P (c - 1)) P))
theorem Snk.ct {x : St} {s : Nat} {B : List Nat} (h : Snk x s B) (hB : B.length ≤ roomOf s) : fI x s 1 = nI B.length := by
  rcases h.2.2 with z | z
  · exact z.2.2.1
  · exact absurd z.1 (by omega)
theorem k_chooseL {ty : Nat} {V : Nat → Int64} {P : List PV} (hty : ty < 4) (hP : okP ty P) (hP1 : P.length ≤ 1000) (ho : ty = 3 → oF P P.length ≤ 20000) : ∀ d c f κ t b, c + d = nCod ty → d < f → TB t b → (∀ t, SnkId t → κ t ≤ roomOf t) → ∃ κ', Kle κ κ' ∧ ∃ t' b', TB t' b' ∧ ∀ κ2, Kle κ' κ2 → ∀ (x : St) (post : Int32 → St → Prop) kb nb, SkS x → Caps x κ → ChS x t b ty V P c → KP κ ≤ kb + KP κ' → NP κ ≤ nb + NP κ' → (∀ y, SkS y → Caps y κ' → FB x y → ChS y t' b' ty V P (nCod ty) → post (nI (bC ty P (nCod ty - 1))) y) → wl_Wrt_chooseCoding_24 post f 45 (nI ty) (nI (nCod ty - 1)) (nI (if c = 0 then 0 else bC ty P (c - 1))) (nI c) kb nb x := by
  have hn4 : nCod ty ≤ 4 ∧ 2 ≤ nCod ty := by unfold nCod; split; decide; split <;> decide
  intro d
  induction d with
  | zero =>
    intro c f κ t b hc hf htb hκ
    obtain ⟨g, rfl⟩ : ∃ g, f = g + 1 := ⟨f - 1, by omega⟩
    refine ⟨κ, Kle.refl hκ, t, b, htb, fun κ2 m2 x post kb nb hK hC h hk hn p => ?_⟩
    have ec : c = nCod ty := by omega
    subst ec
    rw [wl_ch]
    unfold j_Wrt_chooseCoding_24
    rw [if_neg (by omega)]
    exact br_t (by (first | omega | (simp (disch := omega) only [Int32.le_iff_toInt_le, Int32.lt_iff_toInt_lt, z_eq, z_in, nI_toInt, z_cl, z_m1, z_sg, z_255, Int32.reduceToInt] <;> omega) | (simp only [Int32.le_iff_toInt_le, Int32.lt_iff_toInt_lt, z_eq, z_in, z_add, z_sub, z_mul, z_neg, z_nI, z_cl, z_sg, z_255, z_lit, Int32.reduceToInt] <;> omega))) (p x hK hC (FX.refl x) h)
  | succ d ih =>
    intro c f κ t b hc hf htb hκ
    obtain ⟨g, rfl⟩ : ∃ g, f = g + 1 := ⟨f - 1, by omega⟩
    have hcn : c < nCod ty := by omega
    have ht := htb.s
    have hb := htb.sw.s
    obtain ⟨κ1, m1, f1⟩ := k_val (κ := κ) (s := t) (ty := ty) (c := c) (V := V) (P := P) ht hty hcn hP hP1 hκ
    have vl : ∀ c, (valB ty c P).length ≤ 30000 := fun c => val_len hP hP1 ho
    have rt := htb.room
    have rb := htb.sw.room
    -- is it better?
    have step : ∃ (sw : Bool), (sw = true ↔ (c = 0 ∨ (valB ty c P).length < (valB ty (bC ty P (c - 1)) P).length)) := ⟨decide (c = 0 ∨ (valB ty c P).length < (valB ty (bC ty P (c - 1)) P).length), by rw [decide_eq_true_eq]⟩
    obtain ⟨sw, hsw⟩ := step
    have eb : bC ty P c = if sw = true then c else bC ty P (c - 1) := by
      cases c with
      | zero => rw [if_pos (hsw.mpr (Or.inl rfl))]; rfl
      | succ c =>
        simp only [bC, Nat.add_sub_cancel]
        by_cases z : sw = true
        · rw [if_pos z]
          rcases hsw.mp z with w | w
          · omega
          · exact if_pos w
        · rw [if_neg z]
          exact if_neg (fun w => z (hsw.mpr (Or.inr w)))
    obtain ⟨κ', m2, t', b', htb', f2⟩ := ih (c + 1) g κ1 (if sw = true then b else t) (if sw = true then t else b) (by omega) (by omega) (by by_cases z : sw = true; rw [if_pos z, if_pos z]; exact htb.sw; rw [if_neg z, if_neg z]; exact htb) (fun u hu => (m1 u hu).2)
    refine ⟨κ', m1.trans m2, t', b', htb', fun κ2 m3 x post kb nb hK hC h hk hn p => ?_⟩
    obtain ⟨x1, x2, x3, x4, x5, x6, x7, x8⟩ := h
    rw [wl_ch]
    unfold j_Wrt_chooseCoding_24
    refine br_f (by (first | omega | (simp (disch := omega) only [Int32.le_iff_toInt_le, Int32.lt_iff_toInt_lt, z_eq, z_in, nI_toInt, z_cl, z_m1, z_sg, z_255, Int32.reduceToInt] <;> omega) | (simp only [Int32.le_iff_toInt_le, Int32.lt_iff_toInt_lt, z_eq, z_in, z_add, z_sub, z_mul, z_neg, z_nI, z_cl, z_sg, z_255, z_lit, Int32.reduceToInt] <;> omega))) ⟨t, x1.2.1.1, ?_⟩
    unfold wp_Snk_forget
    refine nm_e (nm_e ?_)
    obtain ⟨o1, o2, o3⟩ := forget_ok ht hK hC x4 x5
    have fo : FC t x (setI (setI x t 1 0) t 2 0) := FC.trans ht (FC.f (Or.inl rfl)) (FC.f (Or.inr (Or.inl rfl)))
    refine f1 κ' m2 (setI (setI x t 1 0) t 2 0) (fun k n y => j_Wrt_chooseCoding_121 post (wl_Wrt_chooseCoding_24 post g) 45 (nI ty) (nI (nCod ty - 1)) (nI (if c = 0 then 0 else bC ty P (c - 1))) (nI c) k n y) kb nb o1 o2 o3 ⟨PgC.c ht hK fo x1, x2.c ht hK fo⟩ hk hn (fun y k n y1 y2 y3 y4 b1 b2 => ?_)
    have fxy := FC.trans ht fo y3
    have g1 := PgC.c ht hK fxy x1
    have g2 := x2.c ht hK fxy
    have g3 : fR y 45 3 = some b := (fxy.2.2.1 45 3 id (fun z => (snk45 ht).1 z.1.symm)).trans x3
    have gb5 : fI y b 5 = 0 := (fxy.1 b 5 (fun z => htb.ne z.1)).trans x6
    have gb6 : fI y b 6 = 0 := (fxy.1 b 6 (fun z => htb.ne z.1)).trans x7
    have ec := y4.ct (by have := vl c; omega)
    have fin1 : sw = true → j_Wrt_chooseCoding_143 post (wl_Wrt_chooseCoding_24 post g) 45 (nI ty) (nI (nCod ty - 1)) (nI (if c = 0 then 0 else bC ty P (c - 1))) (nI c) k n y := fun z => by
      rw [if_pos z, if_pos z] at f2
      unfold j_Wrt_chooseCoding_143 j_Wrt_chooseCoding_166
      refine ⟨b, g3, t, g1.2.1.1, nm_e (nm_e ?_)⟩
      rw [nI_1]
      have q := f2 κ' (Kle.refl (fun u hu => (m2 u hu).2)) (setR (setR y 45 3 (some t)) 45 4 (some b)) post k n (setR_sk (setR_sk y1)) (setR_caps (setR_caps y2)) ⟨g1.sw, g2, by rw [gR_ne (by decide)]; exact gR_at, gb5, gb6, y4.1, y4.2.1, fun _ => ?_⟩ b1 b2 (fun w w1 w2 w3 w4 => p w w1 w2 (FB.trans (fxy.b htb.t) (FB.trans (FB.r (Or.inl rfl)) (FB.trans (FB.r (Or.inr rfl)) w3))) w4)
      · rw [if_neg (by omega), Nat.add_sub_cancel, eb, if_pos z] at q
        exact q
      · rw [Nat.add_sub_cancel, eb, if_pos z]
        exact setR_snk ht (setR_snk ht y4)
    have fin2 : ¬ sw = true → j_Wrt_chooseCoding_166 post (wl_Wrt_chooseCoding_24 post g) 45 (nI ty) (nI (nCod ty - 1)) (nI (if c = 0 then 0 else bC ty P (c - 1))) (nI c) k n y := fun z => by
      rw [if_neg z, if_neg z] at f2
      have c0 : ¬ c = 0 := fun w => z (hsw.mpr (Or.inl w))
      have sb := Snk.c ht hb htb.ne hK fxy (x8 c0)
      unfold j_Wrt_chooseCoding_166
      rw [nI_1]
      have q := f2 κ' (Kle.refl (fun u hu => (m2 u hu).2)) y post k n y1 y2 ⟨g1, g2, g3, y4.1, y4.2.1, gb5, gb6, fun _ => ?_⟩ b1 b2 (fun w w1 w2 w3 w4 => p w w1 w2 (FB.trans (fxy.b htb.t) w3) w4)
      · rw [if_neg (by omega), Nat.add_sub_cancel, eb, if_neg z] at q
        rw [if_neg c0]
        exact q
      · rw [Nat.add_sub_cancel, eb, if_neg z]
        exact sb
    unfold j_Wrt_chooseCoding_121
    by_cases c0 : c = 0
    · exact br_t (by rw [c0]; rfl) (fin1 (hsw.mpr (Or.inl c0)))
    · refine br_f (fun z => c0 (nI_inj (b := 0) (by omega) (by decide) z)) ⟨t, g1.2.1.1, b, g3, ?_⟩
      have sb := Snk.c ht hb htb.ne hK fxy (x8 c0)
      have vb := vl (bC ty P (c - 1))
      have vc := vl c
      rw [ec, sb.ct (by omega)]
      by_cases z : sw = true
      · have w : (valB ty c P).length < (valB ty (bC ty P (c - 1)) P).length := (hsw.mp z).resolve_left c0
        exact br_f (by (first | omega | (simp (disch := omega) only [Int32.le_iff_toInt_le, Int32.lt_iff_toInt_lt, z_eq, z_in, nI_toInt, z_cl, z_m1, z_sg, z_255, Int32.reduceToInt] <;> omega) | (simp only [Int32.le_iff_toInt_le, Int32.lt_iff_toInt_lt, z_eq, z_in, z_add, z_sub, z_mul, z_neg, z_nI, z_cl, z_sg, z_255, z_lit, Int32.reduceToInt] <;> omega))) (fin1 z)
      · have w : ¬ (valB ty c P).length < (valB ty (bC ty P (c - 1)) P).length := fun w => z (hsw.mpr (Or.inr w))
        exact br_t (by (first | omega | (simp (disch := omega) only [Int32.le_iff_toInt_le, Int32.lt_iff_toInt_lt, z_eq, z_in, nI_toInt, z_cl, z_m1, z_sg, z_255, Int32.reduceToInt] <;> omega) | (simp only [Int32.le_iff_toInt_le, Int32.lt_iff_toInt_lt, z_eq, z_in, z_add, z_sub, z_mul, z_neg, z_nI, z_cl, z_sg, z_255, z_lit, Int32.reduceToInt] <;> omega))) (fin2 z)
/-- the coding that is chosen -/
def cod (ty : Nat) (P : List PV) : Nat := bC ty P (nCod ty - 1)
theorem k_choose {κ : Nat → Nat} {t b ty : Nat} {V : Nat → Int64} {P : List PV} (hty : ty < 4) (hP : okP ty P) (hP1 : P.length ≤ 1000) (ho : ty = 3 → oF P P.length ≤ 20000) (htb : TB t b) (hκ : ∀ t, SnkId t → κ t ≤ roomOf t) : ∃ κ', Kle κ κ' ∧ ∃ t' b', TB t' b' ∧ ∀ (x : St) (post : Int32 → St → Prop) kb nb, SkS x → Caps x κ → ChS x t b ty V P 0 → KP κ ≤ kb + KP κ' → NP κ ≤ nb + NP κ' → (∀ y, SkS y → Caps y κ' → FB x y → ChS y t' b' ty V P (nCod ty) → post (nI (cod ty P)) y) → wp_Wrt_chooseCoding post 45 (nI ty) kb nb x := by
  obtain ⟨κ', m, t', b', h1, h2⟩ := k_chooseL hty hP hP1 ho (V := V) (nCod ty) 0 (nCod ty + 1) κ t b (by omega) (by omega) htb hκ
  refine ⟨κ', m, t', b', h1, fun x post kb nb hK hC h hk hn p => ?_⟩
  have q := h2 κ' (Kle.refl (fun u hu => (m u hu).2)) x post kb nb hK hC h hk hn p
  unfold wp_Wrt_chooseCoding
  by_cases c0 : ty = 0
  · subst c0
    exact bn_t rfl ⟨_, q⟩
  · refine bn_f (fun z => c0 (nI_inj (b := 0) (by omega) (by decide) z)) ?_
    by_cases c3 : ty = 3
    · subst c3
      exact bn_t rfl ⟨_, q⟩
    · have hn : nCod ty = 3 := by unfold nCod; rw [if_neg c0, if_neg c3]
      rw [hn] at q
      exact bn_f (fun z => c3 (nI_inj (b := 3) (by omega) (by decide) z)) ⟨_, q⟩
