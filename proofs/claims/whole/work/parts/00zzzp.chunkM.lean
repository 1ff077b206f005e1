/-! the model: entries of a column of some rows; bytes of the file -/
def sg (E : List SEn) (c a : Nat) : Nat → List Nat
  | 0 => []
  | d + 1 => sg E c a d ++ (if (en E (a + d)).1 = c then [a + d] else [])
theorem sg_le {E : List SEn} {c a : Nat} : ∀ d, (sg E c a d).length ≤ d := by
  intro d
  induction d with
  | zero => exact Nat.le_refl _
  | succ d ih =>
    show (sg E c a d ++ _).length ≤ d + 1
    rw [List.length_append]
    split
    · show _ + 1 ≤ _; omega
    · show _ + 0 ≤ _; omega
theorem txI_tx {E : List SEn} {c a : Nat} : ∀ d, a + d ≤ E.length → txI E (sg E c a d) + tx (E.take a) ≤ tx (E.take (a + d)) := by
  intro d
  induction d with
  | zero => intro _; show 0 + _ ≤ _; rw [Nat.add_zero]; omega
  | succ d ih =>
    intro h
    have h1 := ih (by omega)
    have e : E.take (a + (d + 1)) = E.take (a + d) ++ [en E (a + d)] := tk1 (m := a + d) (by omega)
    rw [e, tx_app]
    have e2 : tx [en E (a + d)] = (en E (a + d)).2.2.2.2.length := rfl
    rw [e2]
    show txI E (sg E c a d ++ _) + _ ≤ _
    split
    · rw [txI_app]; omega
    · rw [List.append_nil]; omega
section
variable {x : St} {RS : List (List SEn)}
theorem rw_le {i : Nat} : (RS.take i).flatten.length ≤ RS.flatten.length := by
  have := congrArg List.length (congrArg List.flatten (List.take_append_drop i RS))
  rw [List.flatten_append, List.length_append] at this
  omega
theorem rw_mono {i j : Nat} (h : i ≤ j) : (RS.take i).flatten.length ≤ (RS.take j).flatten.length := by
  have := rw_le (RS := RS.take j) (i := i)
  rw [List.take_take, Nat.min_eq_left h] at this
  exact this
theorem s_many {post : Int32 → St → Prop} {c r e : Nat} (hL : LM x) (h : RcM x RS) (hc : c < 64) (hr : r ≤ e) (he : e ≤ RS.length) (hcl : ∀ i, i < RS.flatten.length → (en RS.flatten i).1 < 64) (p : post (nI (sg RS.flatten c (RS.take r).flatten.length ((RS.take e).flatten.length - (RS.take r).flatten.length)).length) x) : wp_Mod_many post (nI c) (nI r) (nI e) x := by
  obtain ⟨h1, h2, h3, h4, h5⟩ := h
  have e23 : fN x 23 = 2001 := hL 23
  have e20 : fN x 20 = 10000 := hL 20
  have m1 := rw_mono (RS := RS) hr
  have m2 := rw_le (RS := RS) (i := e)
  have hl := h2.1
  unfold wp_Mod_many
  refine ⟨vp_in_nI (by omega) (by omega), nm_r (e' := nI (RS.take r).flatten.length) (by rw [rA_nI (by omega)]; exact h5 r (by omega)) ?_⟩
  generalize ha : (RS.take r).flatten.length = a at *
  generalize hb : (RS.take e).flatten.length = b at *
  refine lp_Mod_many_11 (fun a0 a1 a2 a3 a4 y => nI c = a0 ∧ nI e = a2 ∧ x = y ∧ ∃ d, nI (a + d) = a4 ∧ a + d ≤ b ∧ nI (sg RS.flatten c a d).length = a3) (fun _ _ _ _ a4 _ => b - a4.toNatClampNeg) ?_ _ _ _ _ _ _ ⟨rfl, rfl, rfl, 0, rfl, by omega, rfl⟩
  rintro Q a0 a1 a2 a3 a4 y ⟨rfl, rfl, rfl, d, rfl, d1, rfl⟩ ih
  unfold j_Mod_many_11
  refine ⟨vp_in_nI (by omega) (by omega), ?_⟩
  rw [rA_nI (by omega), h5 e he, hb]
  by_cases cd : a + d < b
  · refine br_f (by (first | omega | (simp (disch := omega) only [Int32.le_iff_toInt_le, Int32.lt_iff_toInt_lt, z_eq, z_in, nI_toInt, z_cl, z_m1, z_sg, z_255, Int32.reduceToInt] <;> omega) | (simp only [Int32.le_iff_toInt_le, Int32.lt_iff_toInt_lt, z_eq, z_in, z_add, z_sub, z_mul, z_neg, z_nI, z_cl, z_sg, z_255, z_lit, Int32.reduceToInt] <;> omega))) ⟨vp_in_nI (by omega) (by omega), ?_⟩
    have ee := (h1.2.2 (a + d) (by omega)).1
    rw [rA_nI (by omega), ee]
    unfold j_Mod_many_40
    have lt := hcl (a + d) (by omega)
    rw [nI_1]
    by_cases z : (en RS.flatten (a + d)).1 = c
    · refine bn_t (by rw [← z]) (nm_r (nI_1 _) (ih _ _ _ _ _ _ ⟨rfl, rfl, rfl, d + 1, rfl, by omega, ?_⟩ (by rw [nI_clamp (by omega), nI_clamp (by omega)]; omega)))
      show nI (sg RS.flatten c a d ++ _).length = _
      rw [if_pos z, List.length_append]
      rfl
    · refine bn_f (fun w => z (nI_inj (by omega) (by omega) w)) (nm_r (Int32.add_zero _) (ih _ _ _ _ _ _ ⟨rfl, rfl, rfl, d + 1, rfl, by omega, ?_⟩ (by rw [nI_clamp (by omega), nI_clamp (by omega)]; omega)))
      show nI (sg RS.flatten c a d ++ _).length = _
      rw [if_neg z, List.append_nil]
  · refine br_t (by (first | omega | (simp (disch := omega) only [Int32.le_iff_toInt_le, Int32.lt_iff_toInt_lt, z_eq, z_in, nI_toInt, z_cl, z_m1, z_sg, z_255, Int32.reduceToInt] <;> omega) | (simp only [Int32.le_iff_toInt_le, Int32.lt_iff_toInt_lt, z_eq, z_in, z_add, z_sub, z_mul, z_neg, z_nI, z_cl, z_sg, z_255, z_lit, Int32.reduceToInt] <;> omega))) ?_
    rw [show b - a = d by omega] at p
    exact p
theorem s_textsOf {post : Int32 → St → Prop} {c r e : Nat} (hL : LM x) (h : RcM x RS) (hc : c < 64) (hr : r ≤ e) (he : e ≤ RS.length) (hcl : ∀ i, i < RS.flatten.length → (en RS.flatten i).1 < 64) (p : post (nI (txI RS.flatten (sg RS.flatten c (RS.take r).flatten.length ((RS.take e).flatten.length - (RS.take r).flatten.length)))) x) : wp_Mod_textsOf post (nI c) (nI r) (nI e) x := by
  obtain ⟨h1, h2, h3, h4, h5⟩ := h
  have e23 : fN x 23 = 2001 := hL 23
  have e20 : fN x 20 = 10000 := hL 20
  have e22 : fN x 22 = 10000 := hL 22
  have m1 := rw_mono (RS := RS) hr
  have m2 := rw_le (RS := RS) (i := e)
  have hl := h2.1
  unfold wp_Mod_textsOf
  refine ⟨vp_in_nI (by omega) (by omega), nm_r (e' := nI (RS.take r).flatten.length) (by rw [rA_nI (by omega)]; exact h5 r (by omega)) ?_⟩
  generalize ha : (RS.take r).flatten.length = a at *
  generalize hb : (RS.take e).flatten.length = b at *
  refine lp_Mod_textsOf_11 (fun a0 a1 a2 a3 a4 y => nI c = a0 ∧ nI e = a2 ∧ x = y ∧ ∃ d, nI (a + d) = a4 ∧ a + d ≤ b ∧ nI (txI RS.flatten (sg RS.flatten c a d)) = a3) (fun _ _ _ _ a4 _ => b - a4.toNatClampNeg) ?_ _ _ _ _ _ _ ⟨rfl, rfl, rfl, 0, rfl, by omega, rfl⟩
  rintro Q a0 a1 a2 a3 a4 y ⟨rfl, rfl, rfl, d, rfl, d1, rfl⟩ ih
  unfold j_Mod_textsOf_11
  refine ⟨vp_in_nI (by omega) (by omega), ?_⟩
  rw [rA_nI (by omega), h5 e he, hb]
  by_cases cd : a + d < b
  · refine br_f (by (first | omega | (simp (disch := omega) only [Int32.le_iff_toInt_le, Int32.lt_iff_toInt_lt, z_eq, z_in, nI_toInt, z_cl, z_m1, z_sg, z_255, Int32.reduceToInt] <;> omega) | (simp only [Int32.le_iff_toInt_le, Int32.lt_iff_toInt_lt, z_eq, z_in, z_add, z_sub, z_mul, z_neg, z_nI, z_cl, z_sg, z_255, z_lit, Int32.reduceToInt] <;> omega))) ⟨vp_in_nI (by omega) (by omega), ?_⟩
    have ee := h1.2.2 (a + d) (by omega)
    rw [rA_nI (by omega), ee.1]
    unfold j_Mod_textsOf_46
    have lt := hcl (a + d) (by omega)
    rw [nI_1]
    by_cases z : (en RS.flatten (a + d)).1 = c
    · refine bn_t (by rw [← z]) ⟨vp_in_nI (by omega) (by omega), ?_⟩
      rw [rA_nI (by omega), ee.2.2.2.2.1]
      refine nm_r (nI_add _ _) (ih _ _ _ _ _ _ ⟨rfl, rfl, rfl, d + 1, rfl, by omega, ?_⟩ (by rw [nI_clamp (by omega), nI_clamp (by omega)]; omega))
      show nI (txI RS.flatten (sg RS.flatten c a d ++ _)) = _
      rw [if_pos z, txI_app]
    · refine bn_f (fun w => z (nI_inj (by omega) (by omega) w)) (nm_r (Int32.add_zero _) (ih _ _ _ _ _ _ ⟨rfl, rfl, rfl, d + 1, rfl, by omega, ?_⟩ (by rw [nI_clamp (by omega), nI_clamp (by omega)]; omega)))
      show nI (txI RS.flatten (sg RS.flatten c a d ++ _)) = _
      rw [if_neg z, List.append_nil]
  · refine br_t (by (first | omega | (simp (disch := omega) only [Int32.le_iff_toInt_le, Int32.lt_iff_toInt_lt, z_eq, z_in, nI_toInt, z_cl, z_m1, z_sg, z_255, Int32.reduceToInt] <;> omega) | (simp only [Int32.le_iff_toInt_le, Int32.lt_iff_toInt_lt, z_eq, z_in, z_add, z_sub, z_mul, z_neg, z_nI, z_cl, z_sg, z_255, z_lit, Int32.reduceToInt] <;> omega))) ?_
    rw [show b - a = d by omega] at p
    exact p
end
/-- the bytes of the file that is being made -/
def Wk (x : St) (W : List Nat) : Prop := fI x 0 66 = nI W.length ∧ fN x 42 = 40000 ∧ (∀ b, b ∈ W → b < 256) ∧ ∀ i, i < W.length → i < 40000 → fA x 42 i = nI (W.getD i 0)
abbrev FrW (x y : St) : Prop := Fg (fun o k => o = 0 ∧ k = 66) no2 no2 (fun a => a = 42) no1 x y
theorem s_addByte {post : St → Prop} {x : St} {W : List Nat} {b : Nat} (h : Wk x W) (hW : W.length < 2 ^ 30) (hb : b < 256) (p : ∀ y, FrW x y → Wk y (W ++ [b]) → post y) : wp_Mod_addByte post (nI b) x := by
  obtain ⟨h1, h2, h3, h4⟩ := h
  have hl : (W ++ [b]).length = W.length + 1 := by rw [List.length_append]; rfl
  have hm : ∀ z, z ∈ W ++ [b] → z < 256 := fun z hz => by
    rcases List.mem_append.mp hz with w | w
    · exact h3 z w
    · rw [List.mem_singleton] at w; omega
  unfold wp_Mod_addByte j_Mod_addByte_19
  rw [h1]
  by_cases c : W.length < 40000
  · refine br_f (by (first | omega | (simp (disch := omega) only [Int32.le_iff_toInt_le, Int32.lt_iff_toInt_lt, z_eq, z_in, nI_toInt, z_cl, z_m1, z_sg, z_255, Int32.reduceToInt] <;> omega) | (simp only [Int32.le_iff_toInt_le, Int32.lt_iff_toInt_lt, z_eq, z_in, z_add, z_sub, z_mul, z_neg, z_nI, z_cl, z_sg, z_255, z_lit, Int32.reduceToInt] <;> omega))) ⟨vp_in_nI (by omega) (by omega), nm_e ?_⟩
    rw [show fI (setA x 42 (nI W.length) (nI b)) 0 66 = nI W.length from h1, nI_1]
    refine nm_e (p _ (Fg.trans (Fg.a rfl) (Fg.i ⟨rfl, rfl⟩)) ⟨by rw [gI_at, hl], h2, hm, fun i hi hi2 => ?_⟩)
    show fA (setA x 42 (nI W.length) (nI b)) 42 i = _
    rw [gA_at, nI_clamp (by omega)]
    by_cases e : i = W.length
    · rw [e, upd_at, getD_app2 (Nat.le_refl _), Nat.sub_self]
      rfl
    · rw [upd_ne e, getD_app1 (by omega)]
      exact h4 i (by omega) hi2
  · refine br_t (by (first | omega | (simp (disch := omega) only [Int32.le_iff_toInt_le, Int32.lt_iff_toInt_lt, z_eq, z_in, nI_toInt, z_cl, z_m1, z_sg, z_255, Int32.reduceToInt] <;> omega) | (simp only [Int32.le_iff_toInt_le, Int32.lt_iff_toInt_lt, z_eq, z_in, z_add, z_sub, z_mul, z_neg, z_nI, z_cl, z_sg, z_255, z_lit, Int32.reduceToInt] <;> omega))) ?_
    rw [nI_1]
    refine nm_e (p _ (Fg.i ⟨rfl, rfl⟩) ⟨by rw [gI_at, hl], h2, hm, fun i hi hi2 => ?_⟩)
    show fA x 42 i = _
    rw [getD_app1 (by omega)]
    exact h4 i (by omega) hi2
theorem s_addSheet {post : St → Prop} {x : St} {W B : List Nat} (h : Wk x W) (hS : Sh x B) (hW : W.length ≤ 2 ^ 28) (hB : B.length ≤ 60000) (p : ∀ y, FrW x y → Wk y (W ++ B) → post y) : wp_Mod_addSheet post x := by
  unfold wp_Mod_addSheet
  refine lp_Mod_addSheet_2 (fun a0 y => ∃ i, nI i = a0 ∧ i ≤ B.length ∧ FrW x y ∧ Wk y (W ++ B.take i)) (fun a0 _ => B.length - a0.toNatClampNeg) ?_ _ _ ⟨0, rfl, Nat.zero_le _, Fg.refl x, by rw [List.take_zero, List.append_nil]; exact h⟩
  rintro Q a0 y ⟨i, rfl, i1, y1, y2⟩ ih
  have s1 : fI y 0 64 = nI B.length := (y1.1 0 64 (by decide)).trans hS.1
  have s2 : fN y 39 = 60000 := by show y.2.2.2.2.2 39 = _; rw [y1.2.2.2.2.2]; exact hS.2.1
  unfold j_Mod_addSheet_2
  rw [s1, s2]
  by_cases c : i < B.length
  · refine br_f (by (first | omega | (simp (disch := omega) only [Int32.le_iff_toInt_le, Int32.lt_iff_toInt_lt, z_eq, z_in, nI_toInt, z_cl, z_m1, z_sg, z_255, Int32.reduceToInt] <;> omega) | (simp only [Int32.le_iff_toInt_le, Int32.lt_iff_toInt_lt, z_eq, z_in, z_add, z_sub, z_mul, z_neg, z_nI, z_cl, z_sg, z_255, z_lit, Int32.reduceToInt] <;> omega))) (br_f (by (first | omega | (simp (disch := omega) only [Int32.le_iff_toInt_le, Int32.lt_iff_toInt_lt, z_eq, z_in, nI_toInt, z_cl, z_m1, z_sg, z_255, Int32.reduceToInt] <;> omega) | (simp only [Int32.le_iff_toInt_le, Int32.lt_iff_toInt_lt, z_eq, z_in, z_add, z_sub, z_mul, z_neg, z_nI, z_cl, z_sg, z_255, z_lit, Int32.reduceToInt] <;> omega))) ⟨vp_in_nI (by omega) (by decide), ?_⟩)
    have ev : rA y 39 (nI i) = nI (B.getD i 0) := by
      rw [rA_nI (by omega)]
      show y.2.2.2.1 39 i = _
      rw [y1.2.2.2.1 39 (by decide)]
      exact hS.2.2.2 i c (by omega)
    rw [ev]
    unfold j_Mod_addSheet_30
    rw [nI_1]
    refine s_addByte y2 (by rw [List.length_append, List.length_take]; omega) (hS.2.2.1 _ (getD_mem c)) (fun z z1 z2 => ih _ _ ⟨i + 1, rfl, by omega, Fg.trans y1 z1, ?_⟩ (by rw [nI_clamp (by omega), nI_clamp (by omega)]; omega))
    have : B.take (i + 1) = B.take i ++ [B.getD i 0] := by
      rw [List.take_succ_eq_append_getElem c, List.getD_eq_getElem?_getD, List.getElem?_eq_getElem c]
      rfl
    rw [this, ← List.append_assoc]
    exact z2
  · refine br_t (by (first | omega | (simp (disch := omega) only [Int32.le_iff_toInt_le, Int32.lt_iff_toInt_lt, z_eq, z_in, nI_toInt, z_cl, z_m1, z_sg, z_255, Int32.reduceToInt] <;> omega) | (simp only [Int32.le_iff_toInt_le, Int32.lt_iff_toInt_lt, z_eq, z_in, z_add, z_sub, z_mul, z_neg, z_nI, z_cl, z_sg, z_255, z_lit, Int32.reduceToInt] <;> omega))) (p y y1 ?_)
    rw [show B.take i = B from List.take_of_length_le (by omega)] at y2
    exact y2
