/-! an answer is filled, class -/
/-- is a row found? -/
def isR (F : List SFd) (G : List Nat) (CK : List (List PgW)) (Q : Qy) (r : Nat) : Bool := decide (Q.2.2.1 = []) || hit F G CK Q r
def fndK (F : List SFd) (G : List Nat) (CK : List (List PgW)) (Q : Qy) (k : Nat) : List Nat := (List.range k).filter (isR F G CK Q)
section
variable {x y z : St} {F : List SFd} {G : List Nat} {K : List ChT} {CK : List (List PgW)} {b dE f r o qo s t g j c ix : Nat} {Q : Qy} {A : List GrT} {W : List Nat}
theorem fndK_all : fndK F G CK Q (smN G) = fndR F G CK Q := rfl
theorem fndK_1 {k : Nat} (h : isR F G CK Q k = true) : fndK F G CK Q (k + 1) = fndK F G CK Q k ++ [k] := by
  unfold fndK
  rw [List.range_succ, List.filter_append]
  congr 1
  show List.filter _ [k] = _
  rw [List.filter_cons_of_pos h]
  rfl
theorem fndK_0 {k : Nat} (h : isR F G CK Q k = false) : fndK F G CK Q (k + 1) = fndK F G CK Q k := by
  unfold fndK
  rw [List.range_succ, List.filter_append]
  have : List.filter (isR F G CK Q) [k] = [] := by
    rw [List.filter_cons_of_neg (by rw [h]; decide)]
    rfl
  rw [this, List.append_nil]
theorem fndK_le {k : Nat} : (fndK F G CK Q k).length ≤ k := by
  unfold fndK
  refine Nat.le_trans (List.length_filter_le _ _) ?_
  rw [List.length_range]
  exact Nat.le_refl _
/-- rows still to come -/
def rstK (F : List SFd) (G : List Nat) (CK : List (List PgW)) (Q : Qy) (k : Nat) : List Nat := ((List.range (smN G)).drop k).filter (isR F G CK Q)
theorem rstK_0 : rstK F G CK Q 0 = fndR F G CK Q := rfl
theorem rstK_end : rstK F G CK Q (smN G) = [] := by
  unfold rstK
  have : (List.range (smN G)).drop (smN G) = [] := List.drop_eq_nil_of_le (by rw [List.length_range]; exact Nat.le_refl _)
  rw [this]
  rfl
theorem rng_drop {n k : Nat} (h : k < n) : (List.range n).drop k = k :: (List.range n).drop (k + 1) := by
  rw [List.drop_eq_getElem_cons (by rw [List.length_range]; exact h), List.getElem_range]
theorem rstK_1 {k : Nat} (hk : k < smN G) (h : isR F G CK Q k = true) : rstK F G CK Q k = k :: rstK F G CK Q (k + 1) := by
  unfold rstK
  rw [rng_drop hk, List.filter_cons_of_pos h]
theorem rstK_n {k : Nat} (hk : k < smN G) (h : isR F G CK Q k = false) : rstK F G CK Q k = rstK F G CK Q (k + 1) := by
  unfold rstK
  rw [rng_drop hk, List.filter_cons_of_neg (by rw [h]; decide)]
theorem k_fillL {post : Int32 → St → Prop} {J : Nat → St → Prop} (B : AnC x o qo F G K CK b dE Q) (hJ : ∀ k y z, FgS o y z → J k y → J k z) (h0 : J 0 x) (sk : ∀ k y, isR F G CK Q k = false → k < smN G → J k y → J (k + 1) y)
    (tk : ∀ k y R, k < smN G → isR F G CK Q k = true → FrA o x y → J k y → (∀ z, FrA o x z → J (k + 1) z → j_Ans_fill_159 post R o 97 qo (nI k) z) → j_Ans_fill_107 post R o 97 qo (nI k) y) (fin : ∀ y, FrA o x y → J (smN G) y → wp_Ans_markWanted (fun x10 => post 1 x10) o y) : j_Ans_fill_72 post o 97 qo x := by
  have h2000 := B.1.2.2.1.2.2.2.2.2.2.2.1
  unfold j_Ans_fill_72
  refine lp_Ans_fill_74 (fun b0 b1 b2 b3 y => o = b0 ∧ 97 = b1 ∧ qo = b2 ∧ FrA o x y ∧ ∃ k, k ≤ smN G ∧ nI k = b3 ∧ J k y) (fun _ _ _ b3 _ => smN G - b3.toNatClampNeg) ?_ _ _ _ _ _ ⟨rfl, rfl, rfl, Fg.refl x, 0, Nat.zero_le _, rfl, h0⟩
  rintro R b0 b1 b2 b3 y ⟨rfl, rfl, rfl, fy, k, hk, rfl, jk⟩ ih
  have By := B.fa fy
  have h14 := By.2.2.2.1
  have h15 := By.2.2.2.2.1
  have e1 : fI y 97 1 = nI (smN G) := By.1.2.2.1.2.2.1
  have e8 := By.2.2.2.2.2.1.2.2.1.1
  have s64 := By.2.2.2.2.2.1.2.2.1.2.1
  unfold j_Ans_fill_74
  refine ⟨97, h14, ?_⟩
  rw [e1]
  by_cases ck : k = smN G
  · subst ck
    exact br_t (by (first | omega | (simp (disch := omega) only [Int32.le_iff_toInt_le, Int32.lt_iff_toInt_lt, z_eq, z_in, nI_toInt, z_cl, z_m1, z_sg, z_255, Int32.reduceToInt] <;> omega) | (simp only [Int32.le_iff_toInt_le, Int32.lt_iff_toInt_lt, z_eq, z_in, z_add, z_sub, z_mul, z_neg, z_nI, z_cl, z_sg, z_255, z_lit, Int32.reduceToInt] <;> omega))) (fin y fy jk)
  · have kn : k < smN G := by omega
    have nx : ∀ z, FrA o x z → J (k + 1) z → j_Ans_fill_159 post R o 97 qo (nI k) z := by
      intro z fz jz
      unfold j_Ans_fill_159
      rw [nI_1]
      refine ih _ _ _ _ _ ⟨rfl, rfl, rfl, fz, k + 1, kn, rfl, jz⟩ ?_
      rw [nI_clamp (by omega), nI_clamp (by omega)]
      omega
    refine br_f (by (first | omega | (simp (disch := omega) only [Int32.le_iff_toInt_le, Int32.lt_iff_toInt_lt, z_eq, z_in, nI_toInt, z_cl, z_m1, z_sg, z_255, Int32.reduceToInt] <;> omega) | (simp only [Int32.le_iff_toInt_le, Int32.lt_iff_toInt_lt, z_eq, z_in, z_add, z_sub, z_mul, z_neg, z_nI, z_cl, z_sg, z_255, z_lit, Int32.reduceToInt] <;> omega))) ⟨qo, h15, ?_⟩
    rw [e8]
    by_cases ce : Q.2.2.1 = []
    · refine br_t (by rw [ce]; decide) (tk k y R kn ?_ fy jk nx)
      unfold isR
      rw [decide_eq_true ce]
      rfl
    · have sp : 0 < Q.2.2.1.length := List.length_pos_iff.mpr ce
      have c8 : cnd (tst F Q.2.2.2 (celR F G CK k)) Q.2.2.1 < 8 := cnd_lt (fun t => tst_lt)
      refine br_f (by (first | omega | (simp (disch := omega) only [Int32.le_iff_toInt_le, Int32.lt_iff_toInt_lt, z_eq, z_in, nI_toInt, z_cl, z_m1, z_sg, z_255, Int32.reduceToInt] <;> omega) | (simp only [Int32.le_iff_toInt_le, Int32.lt_iff_toInt_lt, z_eq, z_in, z_add, z_sub, z_mul, z_neg, z_nI, z_cl, z_sg, z_255, z_lit, Int32.reduceToInt] <;> omega))) (k_condR By ce kn (fun z fz => ?_))
      have fxz : FrA o x z := fy.trans fz.fa
      by_cases q : cnd (tst F Q.2.2.2 (celR F G CK k)) Q.2.2.1 = 2
      · refine br_t (by rw [q]; rfl) (tk k z R kn ?_ fxz (hJ k y z fz jk) nx)
        unfold isR hit
        rw [decide_eq_true q, Bool.or_true]
      · refine br_f (fun w => q (nI_inj (b := 2) (by omega) (by omega) w)) (nx z fxz (sk k z ?_ kn (hJ k y z fz jk)))
        unfold isR hit
        rw [decide_eq_false q, decide_eq_false ce]
        rfl
/-- wanted fields -/
def WnR (y : St) (o : Nat) (F : List SFd) (Q : Qy) : Prop := ∀ f, f < F.length → (Q.1.any (fun i => decide (dsc F (fOf i.2.1) f)) = true ↔ ¬ fA y (o + 1) f = 0)
theorem k_markW {post : St → Prop} (B : AnC x o qo F G K CK b dE Q) (h6 : fI x o 6 = if cll Q = true then 1 else 0) (h7 : fI x o 7 = nI Q.1.length) (p : ∀ y, Fg no2 no2 no2 (fun a => a = o + 1) no1 x y → (cll Q = false → WnR y o F Q) → post y) : wp_Ans_markWanted post o x := by
  have hw := B.1.2.2.1.2.1
  have hF := hw.1
  have h14 := B.2.2.2.1
  obtain ⟨o4, -⟩ := sta B.2.1
  obtain ⟨-, c3, -⟩ := stq B.2.2.1
  have ho : 128 ≤ o := by rcases B.2.1 with h | h <;> omega
  have fa : ∀ {y}, Fg no2 no2 no2 (fun a => a = o + 1) no1 x y → FrA o x y := fun f => f.mono (fun _ _ z => z.elim) (fun _ _ z => z) (fun _ _ z => z) (fun a z => by omega) (fun _ z => z.elim)
  unfold wp_Ans_markWanted
  refine ⟨97, h14, ?_⟩
  refine lp_Ans_markWanted_10 (fun b0 b1 b2 y => o = b0 ∧ 70 = b1 ∧ Fg no2 no2 no2 (fun a => a = o + 1) no1 x y ∧ ∃ k, k ≤ 128 ∧ nI k = b2 ∧ ∀ c, c < k → fA y (o + 1) c = 0) (fun _ _ b2 _ => 128 - b2.toNatClampNeg) ?_ _ _ _ _ ⟨rfl, rfl, Fg.refl x, 0, by decide, rfl, fun c hc => absurd hc (Nat.not_lt_zero _)⟩
  rintro R b0 b1 b2 y ⟨rfl, rfl, f, k, hk, rfl, z0⟩ ih
  have n1 := (B.2.1.len (B.fa (fa f)).1.1).1
  unfold j_Ans_markWanted_10
  rw [o4, n1]
  by_cases ck : k = 128
  rotate_left
  · refine br_f (by (first | omega | (simp (disch := omega) only [Int32.le_iff_toInt_le, Int32.lt_iff_toInt_lt, z_eq, z_in, nI_toInt, z_cl, z_m1, z_sg, z_255, Int32.reduceToInt] <;> omega) | (simp only [Int32.le_iff_toInt_le, Int32.lt_iff_toInt_lt, z_eq, z_in, z_add, z_sub, z_mul, z_neg, z_nI, z_cl, z_sg, z_255, z_lit, Int32.reduceToInt] <;> omega))) ⟨vp_in_nI (by omega) (by decide), nm_e ?_⟩
    rw [nI_1]
    refine ih _ _ _ _ ⟨rfl, rfl, f.trans (Fg.a rfl), k + 1, by omega, rfl, fun c hc => ?_⟩ ?_
    · by_cases q : c = k
      · subst q
        rw [gA_on (by omega)]
        rfl
      · rw [gA_off (by omega) q]
        exact z0 c (by omega)
    · rw [nI_clamp (by omega), nI_clamp (by omega)]
      omega
  subst ck
  refine br_t (by decide) ?_
  have q16 := B.2.2.2.2.2.1.1.2.1
  refine lp_Ans_markWanted_32 (fun b0 b1 b2 z => o = b0 ∧ 70 = b1 ∧ Fg no2 no2 no2 (fun a => a = o + 1) no1 x z ∧ ∃ k, k ≤ Q.1.length ∧ nI k = b2 ∧ ∀ c, c < F.length → ((Q.1.take k).any (fun i => decide (dsc F (fOf i.2.1) c)) = true ↔ ¬ fA z (o + 1) c = 0)) (fun _ _ b2 _ => Q.1.length - b2.toNatClampNeg) ?_ _ _ _ _ ⟨rfl, rfl, f, 0, Nat.zero_le _, rfl, fun c hc => ⟨fun z => (nomatch z), fun z => absurd (z0 c (by omega)) z⟩⟩
  rintro R2 b0 b1 b2 z ⟨rfl, rfl, fz, k, hk, rfl, zz⟩ ih2
  have z6 : fI z o 6 = if cll Q = true then 1 else 0 := (fz.1 o 6 (fun z => z)).trans h6
  have z7 : fI z o 7 = nI Q.1.length := (fz.1 o 7 (fun z => z)).trans h7
  have Bz := B.fa (fa fz)
  have k15 := Bz.2.2.2.2.1
  unfold j_Ans_markWanted_32
  rw [z7, z6]
  by_cases ce : k = Q.1.length
  · subst ce
    rw [List.take_length] at zz
    exact br_t (by (first | omega | (simp (disch := omega) only [Int32.le_iff_toInt_le, Int32.lt_iff_toInt_lt, z_eq, z_in, nI_toInt, z_cl, z_m1, z_sg, z_255, Int32.reduceToInt] <;> omega) | (simp only [Int32.le_iff_toInt_le, Int32.lt_iff_toInt_lt, z_eq, z_in, z_add, z_sub, z_mul, z_neg, z_nI, z_cl, z_sg, z_255, z_lit, Int32.reduceToInt] <;> omega))) (p z fz (fun _ => zz))
  have kq : k < Q.1.length := by omega
  refine br_f (by (first | omega | (simp (disch := omega) only [Int32.le_iff_toInt_le, Int32.lt_iff_toInt_lt, z_eq, z_in, nI_toInt, z_cl, z_m1, z_sg, z_255, Int32.reduceToInt] <;> omega) | (simp only [Int32.le_iff_toInt_le, Int32.lt_iff_toInt_lt, z_eq, z_in, z_add, z_sub, z_mul, z_neg, z_nI, z_cl, z_sg, z_255, z_lit, Int32.reduceToInt] <;> omega))) ?_
  by_cases cl : cll Q = true
  · rw [if_pos cl]
    exact bn_f (by decide) (p z fz (fun e => by rw [cl] at e; exact nomatch e))
  have cl' : cll Q = false := Bool.not_eq_true _ |>.mp cl
  rw [if_neg cl]
  refine bn_t rfl ⟨qo, k15, ?_⟩
  have mq := mem_gD (d := ((0, 0, 0) : QIt)) kq
  obtain ⟨f0, hf, ef⟩ := cll_0 cl' mq (B.2.2.2.2.2.2.1.2.1 _ mq)
  have q2 := (B.2.2.1.len Bz.1.1).2.1
  have s2 := (Bz.2.2.2.2.2.1.1.2.2 k kq).2.1
  rw [c3, q2, rA_nI (by omega), s2, ef]
  refine ⟨vp_in_nI (by omega) (by decide), nm_e ?_⟩
  have fo : fOf (Q.1.getD k (0, 0, 0)).2.1 = f0 := by
    rw [ef]
    exact nI_clamp (by omega)
  have tk : ∀ c, (Q.1.take (k + 1)).any (fun i => decide (dsc F (fOf i.2.1) c)) = ((Q.1.take k).any (fun i => decide (dsc F (fOf i.2.1) c)) || decide (dsc F f0 c)) := by
    intro c
    rw [tk_sn (d := (0, 0, 0)) kq, List.any_append]
    congr 1
    show (decide (dsc F (fOf (Q.1.getD k (0, 0, 0)).2.1) c) || false) = _
    rw [Bool.or_false, fo]
  have pb : pB F f0 ≤ F.length := pB_le hf
  have pg : f0 < pB F f0 := ((dsc_iff hw hf hf).mp (dsc_self hw hf)).2
  refine lp_Ans_markWanted_60 (fun b0 b1 b2 b3 b4 w => o = b0 ∧ 70 = b1 ∧ nI k = b2 ∧ nI f0 = b3 ∧ Fg no2 no2 no2 (fun a => a = o + 1) no1 x w ∧ ∃ m, f0 ≤ m ∧ m ≤ pB F f0 ∧ nI m = b4 ∧ ∀ c, c < F.length → (((Q.1.take k).any (fun i => decide (dsc F (fOf i.2.1) c)) || decide (f0 ≤ c ∧ c < m)) = true ↔ ¬ fA w (o + 1) c = 0)) (fun _ _ _ _ b4 _ => pB F f0 - b4.toNatClampNeg) ?_ _ _ _ _ _ _ ⟨rfl, rfl, rfl, rfl, fz, f0, Nat.le_refl _, Nat.le_of_lt pg, rfl, fun c hc => by rw [decide_eq_false (show ¬ (f0 ≤ c ∧ c < f0) from fun z => by omega), Bool.or_false]; exact zz c hc⟩
  rintro R3 b0 b1 b2 b3 b4 w ⟨rfl, rfl, rfl, rfl, fw, m, m1, m2, rfl, ww⟩ ih3
  have Bw := B.fa (fa fw)
  have n1 := (B.2.1.len Bw.1.1).1
  have l77 : fN w 77 = 128 := Bw.1.1 77 (by decide)
  have r8 : rA w (stC 70 8) (nI f0) = nI (pB F f0) := by
    have : rA w 77 (nI f0) = fA w 77 f0 := rA_nI (by omega)
    exact this.trans (Bw.1.2.2.1.1.2.2.2.1 f0 hf).2.2.2.2.2.2.1
  unfold j_Ans_markWanted_60
  rw [r8]
  refine ⟨by show vp_in _ (fN w 77); rw [l77]; exact vp_in_nI (by omega) (by decide), ?_⟩
  by_cases cm : m = pB F f0
  · refine br_t (by (first | omega | (simp (disch := omega) only [Int32.le_iff_toInt_le, Int32.lt_iff_toInt_lt, z_eq, z_in, nI_toInt, z_cl, z_m1, z_sg, z_255, Int32.reduceToInt] <;> omega) | (simp only [Int32.le_iff_toInt_le, Int32.lt_iff_toInt_lt, z_eq, z_in, z_add, z_sub, z_mul, z_neg, z_nI, z_cl, z_sg, z_255, z_lit, Int32.reduceToInt] <;> omega))) ?_
    rw [nI_1]
    refine ih2 _ _ _ _ ⟨rfl, rfl, fw, k + 1, kq, rfl, fun c hc => ?_⟩ ?_
    · rw [tk c, ← ww c hc, cm]
      have : decide (dsc F f0 c) = decide (f0 ≤ c ∧ c < pB F f0) := decide_eq_decide.mpr (dsc_iff hw hf hc)
      rw [this]
    · rw [nI_clamp (by omega), nI_clamp (by omega)]
      omega
  · refine br_f (by (first | omega | (simp (disch := omega) only [Int32.le_iff_toInt_le, Int32.lt_iff_toInt_lt, z_eq, z_in, nI_toInt, z_cl, z_m1, z_sg, z_255, Int32.reduceToInt] <;> omega) | (simp only [Int32.le_iff_toInt_le, Int32.lt_iff_toInt_lt, z_eq, z_in, z_add, z_sub, z_mul, z_neg, z_nI, z_cl, z_sg, z_255, z_lit, Int32.reduceToInt] <;> omega))) ?_
    rw [o4, n1]
    refine ⟨vp_in_nI (by omega) (by decide), nm_e ?_⟩
    rw [nI_1]
    refine ih3 _ _ _ _ _ _ ⟨rfl, rfl, rfl, rfl, fw.trans (Fg.a rfl), m + 1, by omega, by omega, rfl, fun c hc => ?_⟩ ?_
    · by_cases q : c = m
      · subst q
        rw [gA_on (by omega), decide_eq_true (show f0 ≤ c ∧ c < c + 1 from ⟨m1, Nat.lt_succ_self _⟩), Bool.or_true]
        exact ⟨fun _ => by decide, fun _ => rfl⟩
      · rw [gA_off (by omega) q, ← ww c hc]
        have : decide (f0 ≤ c ∧ c < m + 1) = decide (f0 ≤ c ∧ c < m) := decide_eq_decide.mpr (by omega)
        rw [this]
    · rw [nI_clamp (by omega), nI_clamp (by omega)]
      omega
end
