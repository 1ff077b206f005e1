/-! texts of the model: bytes -/
theorem tk_s {t : List Int32} {j : Nat} (h : j < t.length) : tB (t.take (j + 1)) = tB (t.take j) ++ [uI (t.getD j 0)] := by
  rw [List.take_succ_eq_append_getElem h, List.getD_eq_getElem?_getD, List.getElem?_eq_getElem h]
  unfold tB
  rw [List.map_append]
  rfl
theorem by_and {z : Int32} (h : 0 ≤ z ∧ z ≤ 255) : z &&& 255 = nI (uI z) := by
  have := uI_by h
  have e := nI_255 (uI z)
  rw [nI_uI, Nat.mod_eq_of_lt this] at e
  rw [e]
section
variable {x : St} {ty : Nat} {P : List PV}
theorem PgM.end {k : Nat} (h : PgM x ty P) (hk : k < P.length) : vp_in (nI k + 1) (fN x 33) ∧ rA x 33 (nI k + 1) = nI (oF P k + (pvd P k).2.length) ∧ vp_in (nI k) (fN x 33) ∧ rA x 33 (nI k) = nI (oF P k) ∧ oF P k + (pvd P k).2.length ≤ 20000 := by
  obtain ⟨h1, h2, h3, h4, h5, h6, h7, h8, h9, h10⟩ := h
  have e33 : fN x 33 = 1001 := h6 33
  have := oF_le (P := P) (show k + 1 ≤ P.length by omega)
  have e : oF P (k + 1) = oF P k + (pvd P k).2.length := rfl
  rw [nI_1]
  refine ⟨vp_in_nI (by omega) (by omega), ?_, vp_in_nI (by omega) (by omega), ?_, by omega⟩
  · rw [rA_nI (by omega), h8 _ (by omega)]; rfl
  · rw [rA_nI (by omega), h8 _ (by omega)]
theorem PgM.rd2 {k j : Nat} (h : PgM x ty P) (hk : k < P.length) (hj : j < (pvd P k).2.length) : vp_in (nI (oF P k + j)) (fN x 36) ∧ rA x 36 (nI (oF P k + j)) = (pvd P k).2.getD j 0 := by
  have r := h.rd hk hj
  have e := h.end hk
  rw [e.2.2.2.1, nI_add] at r
  exact ⟨r.2.1, r.2.2⟩
theorem s_putText {post : St → Prop} {k : Nat} {B : List Nat} (h : PgM x ty P) (h3 : ty = 3) (hk : k < P.length) (hS : Sh x B) (hB : B.length ≤ 2 ^ 28) (p : ∀ y, FrSh x y → Sh y (B ++ txB (pvd P k).2) → post y) : wp_Mod_putText post (nI k) x := by
  have ok := h.ok h3 hk
  have l1 := ok.1
  have hl := h.2.2.2.2.1
  unfold wp_Mod_putText
  refine s_lengthOf h hk ?_
  rw [nI_l (by omega)]
  refine s_varint hS (by omega) (fun y y1 y2 => ?_)
  rw [uL_lN (by omega)] at y2
  have hy := h.v y1.v
  have ee := hy.end hk
  refine ⟨ee.2.2.1, nm_r ee.2.2.2.1 ?_⟩
  refine lp_Mod_putText_17 (fun a0 a1 z => nI k = a0 ∧ ∃ j, nI (oF P k + j) = a1 ∧ j ≤ (pvd P k).2.length ∧ FrSh x z ∧ Sh z (B ++ varB (pvd P k).2.length ++ tB ((pvd P k).2.take j))) (fun _ a1 _ => 20001 - a1.toNatClampNeg) ?_ _ _ _ ⟨rfl, 0, rfl, Nat.zero_le _, y1, by rw [List.take_zero]; show Sh y (_ ++ []); rw [List.append_nil]; exact y2⟩
  rintro Q a0 a1 z ⟨rfl, j, rfl, j1, z1, z2⟩ ih
  have hz := h.v z1.v
  have ez := hz.end hk
  have vl := varB_len (pvd P k).2.length
  have lt : (B ++ varB (pvd P k).2.length ++ tB ((pvd P k).2.take j)).length ≤ B.length + 10 + 255 := by
    rw [List.length_append, List.length_append, tB_len, List.length_take]
    omega
  unfold j_Mod_putText_17
  refine ⟨ez.1, ?_⟩
  rw [ez.2.1]
  by_cases c : j < (pvd P k).2.length
  · have r := hz.rd2 hk c
    refine br_f (by (first | omega | (simp (disch := omega) only [Int32.le_iff_toInt_le, Int32.lt_iff_toInt_lt, z_eq, z_in, nI_toInt, z_cl, z_m1, z_sg, z_255, Int32.reduceToInt] <;> omega) | (simp only [Int32.le_iff_toInt_le, Int32.lt_iff_toInt_lt, z_eq, z_in, z_add, z_sub, z_mul, z_neg, z_nI, z_cl, z_sg, z_255, z_lit, Int32.reduceToInt] <;> omega))) ⟨r.1, ?_⟩
    rw [r.2, nI_1]
    refine s_put z2 (by omega) (uI_by (ok.2 j c)) (by_and (ok.2 j c)) (fun w w1 w2 => ih _ _ _ ⟨rfl, j + 1, rfl, by omega, Fg.trans z1 w1, ?_⟩ (by rw [nI_clamp (by omega), nI_clamp (by omega)]; omega))
    rw [tk_s c, ← List.append_assoc]
    exact w2
  · refine br_t (by (first | omega | (simp (disch := omega) only [Int32.le_iff_toInt_le, Int32.lt_iff_toInt_lt, z_eq, z_in, nI_toInt, z_cl, z_m1, z_sg, z_255, Int32.reduceToInt] <;> omega) | (simp only [Int32.le_iff_toInt_le, Int32.lt_iff_toInt_lt, z_eq, z_in, z_add, z_sub, z_mul, z_neg, z_nI, z_cl, z_sg, z_255, z_lit, Int32.reduceToInt] <;> omega))) (p z z1 ?_)
    rw [show (pvd P k).2.take j = (pvd P k).2 from List.take_of_length_le (by omega)] at z2
    unfold txB
    rw [← List.append_assoc]
    exact z2
theorem oneB_len {p : PV} (h : okVv ty p) : (oneB ty p).length ≤ 265 := by
  unfold oneB
  split
  · rename_i c
    have := (h c).1
    have := varB_len p.2.length
    unfold txB
    rw [List.length_append, tB_len]
    omega
  · unfold fixB
    rw [fixF_len]
    split <;> omega
theorem plF_app {A : List PV} {b : PV} : plF ty (A ++ [b]) = plF ty A ++ oneB ty b := by
  induction A with
  | nil => show oneB ty b ++ [] = [] ++ oneB ty b; rw [List.append_nil]; rfl
  | cons a A ih => show oneB ty a ++ plF ty (A ++ [b]) = (oneB ty a ++ plF ty A) ++ oneB ty b; rw [ih, List.append_assoc]
theorem plF_len {A : List PV} (h : ∀ p, p ∈ A → okVv ty p) : (plF ty A).length ≤ 265 * A.length := by
  induction A with
  | nil => exact Nat.zero_le _
  | cons a A ih =>
    show (oneB ty a ++ plF ty A).length ≤ _
    have h1 := oneB_len (h a List.mem_cons_self)
    have h2 := ih (fun p hp => h p (List.mem_cons_of_mem _ hp))
    rw [List.length_append, List.length_cons]
    omega
/-- what is left of the texts -/
theorem rsF_snoc {c : Nat → Nat} : ∀ d k, rsF c P (d + 1) k = rsF c P d k ++ tB ((pvd P (k + d)).2.drop (c (k + d))) := by
  intro d
  induction d with
  | zero => intro k; show tB _ ++ [] = [] ++ tB _; rw [List.append_nil]; rfl
  | succ d ih =>
    intro k
    show tB _ ++ rsF c P (d + 1) (k + 1) = (tB _ ++ rsF c P d (k + 1)) ++ tB _
    rw [ih (k + 1), List.append_assoc, show k + 1 + d = k + (d + 1) by omega]
theorem rsF_len {c : Nat → Nat} : ∀ d, (rsF c P d 0).length ≤ oF P d := by
  intro d
  induction d with
  | zero => exact Nat.zero_le _
  | succ d ih =>
    rw [rsF_snoc, List.length_append, tB_len, List.length_drop, Nat.zero_add]
    show _ ≤ oF P d + (pvd P d).2.length
    omega
def flF (g : Nat → Int32) (n : Nat) : List Nat := (List.range n).map (fun i => uI (g i))
theorem flF_s {g : Nat → Int32} {n : Nat} : flF g (n + 1) = flF g n ++ [uI (g n)] := by
  unfold flF
  rw [List.range_succ, List.map_append]
  rfl
theorem flF_add {g : Nat → Int32} {a : Nat} : ∀ b, flF g (a + b) = flF g a ++ flF (fun j => g (a + j)) b := by
  intro b
  induction b with
  | zero => show flF g a = flF g a ++ []; rw [List.append_nil]
  | succ b ih => rw [show a + (b + 1) = a + b + 1 from rfl, flF_s, ih, flF_s, List.append_assoc]
theorem flF_t {g : Nat → Int32} {t : List Int32} (h : ∀ j, j < t.length → g j = t.getD j 0) : flF g t.length = tB t := by
  apply List.ext_getElem
  · unfold flF; rw [List.length_map, List.length_range, tB_len]
  · intro i a b
    unfold flF at a ⊢
    rw [List.length_map, List.length_range] at a
    rw [List.getElem_map, List.getElem_range, h i a]
    have := tB_get a
    rw [List.getD_eq_getElem?_getD, List.getElem?_eq_getElem b] at this
    exact this.symm
theorem flF_all {g : Nat → Int32} : ∀ n, (∀ k j, k < n → j < (pvd P k).2.length → g (oF P k + j) = (pvd P k).2.getD j 0) → flF g (oF P n) = rsF (fun _ => 0) P n 0 := by
  intro n
  induction n with
  | zero => intro _; rfl
  | succ n ih =>
    intro h
    show flF g (oF P n + (pvd P n).2.length) = _
    rw [flF_add, ih (fun k j hk => h k j (by omega)), rsF_snoc, Nat.zero_add, List.drop_zero, flF_t (fun j hj => h n j (by omega) hj)]
theorem flF_len {g : Nat → Int32} {n : Nat} : (flF g n).length = n := by unfold flF; rw [List.length_map, List.length_range]
/-- the byte at a place of the row -/
theorem oF_find : ∀ n i, i < oF P n → ∃ k j, k < n ∧ j < (pvd P k).2.length ∧ i = oF P k + j := by
  intro n
  induction n with
  | zero => intro i h; exact absurd h (Nat.not_lt_zero _)
  | succ n ih =>
    intro i h
    by_cases c : i < oF P n
    · obtain ⟨k, j, a, b, e⟩ := ih i c
      exact ⟨k, j, by omega, b, e⟩
    · have h : i < oF P n + (pvd P n).2.length := h
      exact ⟨n, i - oF P n, by omega, by omega, by omega⟩
theorem cdB_len {V : Nat → Int64} {m : Nat} : (cdB V m).length ≤ 30 + 526 * m := by
  unfold cdB
  have a := varB_len (codeB V m).length
  have b := codeB_len (V := V) (m := m)
  rw [List.length_append]
  omega
theorem s_lens {post : St → Prop} {B : List Nat} (h : PgM x ty P) (h3 : ty = 3) (hS : Sh x B) (hB : B.length ≤ 2 ^ 20) (p : ∀ y, FrV x y → Sh y (B ++ lensB P) → post y) : wp_Mod_writeLengths post x := by
  have hl := h.2.2.2.2.1
  unfold wp_Mod_writeLengths
  rw [h.2.1]
  refine nm_e ?_
  refine lp_Mod_writeLengths_10 (fun a0 z => ∃ k, nI k = a0 ∧ k ≤ P.length ∧ FrV x z ∧ Sh z B ∧ fI z 0 71 = nI P.length ∧ ∀ i, i < k → fL z 43 i = lesV (fun _ => 0) P i) (fun a0 _ => P.length - a0.toNatClampNeg) ?_ _ _ ⟨0, rfl, Nat.zero_le _, Fg.i ⟨rfl, Or.inr rfl⟩, ⟨(gI_ne (by decide)).trans hS.1, hS.2⟩, gI_at, fun i hi => absurd hi (Nat.not_lt_zero _)⟩
  rintro Q a0 z ⟨k, rfl, k1, z1, z2, z3, z4⟩ ih
  have hz := h.v z1
  have e43 : fN z 43 = 2000 := hz.2.2.2.2.2.1 43
  unfold j_Mod_writeLengths_10
  rw [hz.2.1]
  by_cases c : k < P.length
  · have ok := h.ok h3 c
    have l1 := ok.1
    refine br_f (by (first | omega | (simp (disch := omega) only [Int32.le_iff_toInt_le, Int32.lt_iff_toInt_lt, z_eq, z_in, nI_toInt, z_cl, z_m1, z_sg, z_255, Int32.reduceToInt] <;> omega) | (simp only [Int32.le_iff_toInt_le, Int32.lt_iff_toInt_lt, z_eq, z_in, z_add, z_sub, z_mul, z_neg, z_nI, z_cl, z_sg, z_255, z_lit, Int32.reduceToInt] <;> omega))) (s_lengthOf hz c ⟨vp_in_nI (by omega) (by omega), nm_e ?_⟩)
    rw [nI_1, nI_l (by omega)]
    refine ih _ _ ⟨k + 1, rfl, by omega, Fg.trans z1 (Fg.l rfl), z2, z3, fun i hi => ?_⟩ (by rw [nI_clamp (by omega), nI_clamp (by omega)]; omega)
    rw [gL_at, nI_clamp (by omega)]
    by_cases e : i = k
    · rw [e, updL_at]; rfl
    · rw [updL_ne e]; exact z4 i (by omega)
  · have ek : k = P.length := by omega
    subst ek
    refine br_t (by (first | omega | (simp (disch := omega) only [Int32.le_iff_toInt_le, Int32.lt_iff_toInt_lt, z_eq, z_in, nI_toInt, z_cl, z_m1, z_sg, z_255, Int32.reduceToInt] <;> omega) | (simp only [Int32.le_iff_toInt_le, Int32.lt_iff_toInt_lt, z_eq, z_in, z_add, z_sub, z_mul, z_neg, z_nI, z_cl, z_sg, z_255, z_lit, Int32.reduceToInt] <;> omega))) (s_writeCode (V := lesV (fun _ => 0) P) (m := P.length) ⟨z3, by omega, e43, z4⟩ z2 (by omega) (fun y y1 y2 => ?_))
    have cl := cdB_len (V := lesV (fun _ => 0) P) (m := P.length)
    refine lp_Mod_writeLengths_42 (fun a0 w => ∃ i, nI i = a0 ∧ i ≤ oF P P.length ∧ FrV x w ∧ Sh w (B ++ cdB (lesV (fun _ => 0) P) P.length ++ flF (fA x 36) i)) (fun a0 _ => 20001 - a0.toNatClampNeg) ?_ _ _ ⟨0, rfl, Nat.zero_le _, Fg.trans z1 y1.v, by show Sh y (_ ++ []); rw [List.append_nil]; exact y2⟩
    rintro Q' a0 w ⟨i, rfl, i1, w1, w2⟩ ih'
    have hw := h.v w1
    have e33 : fN w 33 = 1001 := hw.2.2.2.2.2.1 33
    have e36 : fN w 36 = 20000 := hw.2.2.2.2.2.1 36
    have hof := h.2.2.2.2.2.2.2.2.2
    unfold j_Mod_writeLengths_42
    rw [hw.2.1]
    refine ⟨vp_in_nI (by omega) (by omega), ?_⟩
    rw [rA_nI (by omega), hw.2.2.2.2.2.2.2.1 _ (Nat.le_refl _)]
    by_cases c2 : i < oF P P.length
    · refine br_f (by (first | omega | (simp (disch := omega) only [Int32.le_iff_toInt_le, Int32.lt_iff_toInt_lt, z_eq, z_in, nI_toInt, z_cl, z_m1, z_sg, z_255, Int32.reduceToInt] <;> omega) | (simp only [Int32.le_iff_toInt_le, Int32.lt_iff_toInt_lt, z_eq, z_in, z_add, z_sub, z_mul, z_neg, z_nI, z_cl, z_sg, z_255, z_lit, Int32.reduceToInt] <;> omega))) ⟨vp_in_nI (by omega) (by omega), ?_⟩
      obtain ⟨k, j, k2, j2, e⟩ := oF_find _ i c2
      have ev : rA w 36 (nI i) = fA x 36 i := by
        rw [rA_nI (by omega)]
        show w.2.2.2.1 36 i = x.2.2.2.1 36 i
        rw [w1.2.2.2.1 36 (by decide)]
      have eb : fA x 36 i = (pvd P k).2.getD j 0 := by rw [e]; exact h.2.2.2.2.2.2.2.2.1 k j k2 j2
      have ok := (h.ok h3 k2).2 j j2
      rw [← eb] at ok
      rw [ev, nI_1]
      refine s_put w2 ?_ (uI_by ok) (by_and ok) (fun v v1 v2 => ih' _ _ ⟨i + 1, rfl, by omega, Fg.trans w1 v1.v, ?_⟩ (by rw [nI_clamp (by omega), nI_clamp (by omega)]; omega))
      · rw [List.length_append, List.length_append, flF_len]
        omega
      · rw [flF_s, ← List.append_assoc]
        exact v2
    · refine br_t (by (first | omega | (simp (disch := omega) only [Int32.le_iff_toInt_le, Int32.lt_iff_toInt_lt, z_eq, z_in, nI_toInt, z_cl, z_m1, z_sg, z_255, Int32.reduceToInt] <;> omega) | (simp only [Int32.le_iff_toInt_le, Int32.lt_iff_toInt_lt, z_eq, z_in, z_add, z_sub, z_mul, z_neg, z_nI, z_cl, z_sg, z_255, z_lit, Int32.reduceToInt] <;> omega))) (p w w1 ?_)
      unfold lensB
      rw [← List.append_assoc, ← flF_all P.length h.2.2.2.2.2.2.2.2.1, show oF P P.length = i by omega]
      exact w2
end
