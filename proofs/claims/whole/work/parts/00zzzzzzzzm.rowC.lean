/-! rows of what is open, class -/
theorem smC_all_le {v : Nat → Nat} {m : Nat} : ∀ N, (∀ c, c < N → m ≤ v c) → N * m ≤ smC (fun _ => true) v N := by
  intro N
  induction N with
  | zero => intro _; rw [Nat.zero_mul]; exact Nat.zero_le _
  | succ N ih =>
    intro h
    have := ih (fun c hc => h c (by omega))
    have h2 := h N (Nat.lt_succ_self _)
    show (N + 1) * m ≤ smC (fun _ => true) v N + (if true = true then v N else 0)
    rw [if_pos rfl, Nat.succ_mul]
    omega
section
variable {x y : St} {F : List SFd} {G : List Nat} {CK : List (List PgW)} {g : Nat}
theorem prs_le (h : OkO F G CK) (hl : CK.length = ncol F * G.length) : ∀ g, g ≤ G.length → ncol F * smN (G.take g) ≤ (enA (CK.take (ncol F * g))).length := by
  intro g
  induction g with
  | zero => intro _; rw [show smN (G.take 0) = 0 from rfl, Nat.mul_zero]; exact Nat.zero_le _
  | succ g ih =>
    intro hg
    have i := ih (by omega)
    have hh : ncol F * g + ncol F ≤ CK.length := by
      rw [hl, ← Nat.mul_succ]
      exact Nat.mul_le_mul_left _ hg
    have s1 := smC_all (F := F) (CK := CK) (g := g) (ncol F) hh
    have s2 : ncol F * G.getD g 0 ≤ smC (fun _ => true) (fun c => (ckG F CK g c).length) (ncol F) := smC_all_le _ (fun c hc => by
      obtain ⟨-, -, -, -, o5, -⟩ := h.at hl (show g < G.length by omega) hc
      rw [← o5]
      exact nR_le _)
    rw [smN_take (show g < G.length by omega), Nat.mul_add, Nat.mul_succ]
    omega
theorem rwL_pos {C : List SEn} {j : Nat} (h0 : (C.getD 0 en0).2.1 = 0) (hj : j < nR C) : ∃ k, k < C.length ∧ rwL C j = C.drop k ∧ nR (C.take k) = j ∧ (C.getD k en0).2.1 = 0 := by
  obtain ⟨k, k1, k2⟩ := rwL_drop C j
  obtain ⟨r1, r2, r3⟩ := rwL_ok h0 j (by omega)
  have ne := r3 hj
  have sp : nR C = nR (C.take k) + nR (C.drop k) := by rw [← nR_app, List.take_append_drop]
  rw [k1] at r1 r2 ne
  have lt : k < C.length := by
    rcases Nat.lt_or_ge k C.length with z | z
    · exact z
    · rw [List.drop_eq_nil_of_le z] at ne; exact absurd rfl ne
  refine ⟨k, lt, k1, by omega, ?_⟩
  unfold hdR' at r2
  rw [getD_dr, Nat.add_zero] at r2
  exact r2
theorem cell86 {rows r c : Nat} {K : List ChT} (hw : WfS F) (O : OpC x F rows G K CK) (h : OkO F G CK) (hg : g < G.length) (h1 : smN (G.take g) ≤ r) (h2 : r - smN (G.take g) < G.getD g 0) (he : (enA CK).length ≤ 10000) (hc : c < ncol F) : r * ncol F + c < 10000 ∧ fA x 86 (r * ncol F + c) = nI (eC F CK g c - (recS F CK g (r - smN (G.take g)) c).length) := by
  obtain ⟨O1, -, -, -, -, O6, O7, O8, -, -, -, -, -, -, bb, dE, O15⟩ := O
  have hl : CK.length = ncol F * G.length := by rw [O6, Nat.mul_comm]
  obtain ⟨lw, -, o3, o4, o5, -⟩ := h.at hl hg hc
  obtain ⟨j, rfl⟩ : ∃ j, r = smN (G.take g) + j := ⟨r - smN (G.take g), by omega⟩
  rw [Nat.add_sub_cancel_left] at h2 ⊢
  obtain ⟨k, k1, k2, k3, k4⟩ := rwL_pos o4 (show j < nR (ckG F CK g c) by rw [o5]; exact h2)
  have hN : 0 < ncol F := by omega
  have ew : (ncol F * g + c) / ncol F = g := by rw [Nat.mul_add_div hN, Nat.div_eq_of_lt hc, Nat.add_zero]
  have em2 : (ncol F * g + c) % ncol F = c := by rw [Nat.mul_add_mod, Nat.mod_eq_of_lt hc]
  have st := (O15.2.1 _ lw).2.2
  rw [ew, em2] at st
  have st : StR x (ncol F) (smN (G.take g)) c (G.getD g 0) (enA (CK.take (ncol F * g + c))).length (ckG F CK g c) := st
  have rs := smN_take hg
  have r1 := smN_le (G := G) (g := g + 1)
  have pr := prs_le h hl G.length (Nat.le_refl _)
  rw [List.take_length] at pr
  have et := enA_tk (CK := CK) (ncol F * G.length)
  have ix : (smN (G.take g) + j) * ncol F + c < 10000 := by
    have : (smN (G.take g) + j + 1) * ncol F ≤ smN G * ncol F := Nat.mul_le_mul_right _ (by omega)
    rw [Nat.succ_mul, Nat.mul_comm (smN G)] at this
    omega
  have cell := st k k1 k4 (by rw [k3]; exact h2) (by rw [k3]; exact ix)
  rw [k3] at cell
  have pv : eC F CK g c - (recS F CK g j c).length = (enA (CK.take (ncol F * g + c))).length + k := by
    show eC F CK g c - (rwL (ckG F CK g c) j).length = _
    rw [k2, List.length_drop]
    unfold eC
    omega
  rw [pv]
  exact ⟨ix, cell⟩
theorem k_entryOf {post : Int32 → St → Prop} {r c : Nat} {v : Int32} (hL : LC x) (hR : RepC x 70 F) (h1 : r * ncol F + c < 10000) (h2 : fA x 86 (r * ncol F + c) = v) (p : post v x) : wp_Vlt_entryOf post 97 (nI r) (nI c) x := by
  have l86 : fN x 86 = 10000 := hL 86 (by decide)
  unfold wp_Vlt_entryOf
  rw [show stC 97 5 = 70 from rfl, show stC 97 10 = 86 from rfl, hR.2.1, l86]
  refine nm_r (e' := nI (r * ncol F + c)) (by rw [nI_mul, nI_add]) (br_f (by (first | omega | (simp (disch := omega) only [Int32.le_iff_toInt_le, Int32.lt_iff_toInt_lt, z_eq, z_in, nI_toInt, z_cl, z_m1, z_sg, z_255, Int32.reduceToInt] <;> omega) | (simp only [Int32.le_iff_toInt_le, Int32.lt_iff_toInt_lt, z_eq, z_in, z_add, z_sub, z_mul, z_neg, z_nI, z_cl, z_sg, z_255, z_lit, Int32.reduceToInt] <;> omega))) (br_t (by (first | omega | (simp (disch := omega) only [Int32.le_iff_toInt_le, Int32.lt_iff_toInt_lt, z_eq, z_in, nI_toInt, z_cl, z_m1, z_sg, z_255, Int32.reduceToInt] <;> omega) | (simp only [Int32.le_iff_toInt_le, Int32.lt_iff_toInt_lt, z_eq, z_in, z_add, z_sub, z_mul, z_neg, z_nI, z_cl, z_sg, z_255, z_lit, Int32.reduceToInt] <;> omega))) ⟨vp_in_nI h1 (by decide), ?_⟩))
  rw [rA_nI (by omega), h2]
  exact p
/-- behind a chunk a row begins, or nothing -/
theorem end0 {rows c : Nat} {K : List ChT} (O : OpC x F rows G K CK) (h : OkO F G CK) (hg : g < G.length) (hc : c < ncol F) : fA x 83 (eC F CK g c) = 0 := by
  obtain ⟨-, -, -, -, -, O6, -, -, -, -, -, -, -, O14, bb, dE, O15⟩ := O
  have hl : CK.length = ncol F * G.length := by rw [O6, Nat.mul_comm]
  obtain ⟨lw, -⟩ := h.at hl hg hc
  have e1 : eC F CK g c = (enA (CK.take (ncol F * g + c + 1))).length := by
    rw [tk_sn (d := []) lw, enA_add, List.length_append]
    rfl
  rw [e1]
  by_cases z : ncol F * g + c + 1 < CK.length
  · obtain ⟨-, -, n3, n4, -⟩ := h _ z
    have sp := enA_split z
    have lt : (enA (CK.take (ncol F * g + c + 1))).length < (enA CK).length := by
      rw [sp, List.length_append, List.length_append]
      have := List.length_pos_iff.mpr n3
      omega
    have en := (O15.1.2.2.2.2.2.2.2.2.2 _ lt).1
    rw [en, sp, List.append_assoc]
    have key : ∀ (A B : List SEn), (A ++ B).getD A.length en0 = B.getD 0 en0 := fun A B => getD_r (j := 0)
    rw [key, getD_l (List.length_pos_iff.mpr n3), n4]
    rfl
  · rw [List.take_of_length_le (by omega)]
    exact O14
end
