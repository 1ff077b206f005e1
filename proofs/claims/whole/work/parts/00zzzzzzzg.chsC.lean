/-! what the Opener has kept, chunk by chunk -/
def tlN (CK : List (List PgW)) : Nat := smN (CK.map (fun X => X.length + 1))
theorem tlN_add {CK : List (List PgW)} {X : List PgW} : tlN (CK ++ [X]) = tlN CK + (X.length + 1) := by
  unfold tlN
  rw [List.map_append]
  exact smN_add
theorem tlN_ge (CK : List (List PgW)) : CK.length ≤ tlN CK := by
  induction CK with
  | nil => exact Nat.zero_le _
  | cons X CK ih => show CK.length + 1 ≤ X.length + 1 + tlN CK; omega
theorem tk_sn {α : Type} {L : List α} {w : Nat} {d : α} (h : w < L.length) : L.take (w + 1) = L.take w ++ [L.getD w d] := by
  rw [List.take_succ_eq_append_getElem h, List.getD_eq_getElem?_getD, List.getElem?_eq_getElem h]
  rfl
theorem tlN_take {CK : List (List PgW)} {w : Nat} (h : w < CK.length) : tlN (CK.take (w + 1)) = tlN (CK.take w) + ((CK.getD w []).length + 1) := by rw [tk_sn (d := []) h, tlN_add]
theorem tlN_mono {CK : List (List PgW)} : ∀ m w, w ≤ m → m ≤ CK.length → tlN (CK.take w) ≤ tlN (CK.take m) := by
  intro m
  induction m with
  | zero => intro w h _; rw [Nat.le_zero.mp h]; exact Nat.le_refl _
  | succ m ih =>
    intro w h hm
    by_cases e : w = m + 1
    · rw [e]; exact Nat.le_refl _
    · have := ih w (by omega) (by omega)
      rw [tlN_take (by omega)]
      omega
/-- a chunk and its pages -/
def CkC (x : St) (F : List SFd) (b dE t c first : Nat) (X : List PgW) : Prop := TeC x F b t c first (ckC X) ∧ fA x 94 t = -1 ∧ ∀ k, k < X.length → TeC x F b (t + 1 + k) c (first + (ckC (X.take k)).length) (X.getD k ([], [])).1 ∧ DiC x b dE (t + 1 + k) (tyC F c) (X.getD k ([], [])).2 (vlE (mdC F c) (X.getD k ([], [])).1 = [])
/-- where the rows of a chunk begin -/
def StR (x : St) (N G0 c rh first : Nat) (C : List SEn) : Prop := ∀ k, k < C.length → (C.getD k en0).2.1 = 0 → nR (C.take k) < rh → (G0 + nR (C.take k)) * N + c < 10000 → fA x 86 ((G0 + nR (C.take k)) * N + c) = nI (first + k)
def CsC (x : St) (F : List SFd) (G : List Nat) (b dE : Nat) (CK : List (List PgW)) : Prop := ∀ w, w < CK.length → fA x 88 w = nI (tlN (CK.take w)) ∧ CkC x F b dE (tlN (CK.take w)) (w % ncol F) (enA (CK.take w)).length (CK.getD w []) ∧ StR x (ncol F) (smN (G.take (w / ncol F))) (w % ncol F) (G.getD (w / ncol F) 0) (enA (CK.take w)).length (ckC (CK.getD w []))
section
variable {x y : St} {F : List SFd} {b b' dE dE' : Nat}
theorem CkC.up {t c first : Nat} {X : List PgW} (h : CkC x F b dE t c first X) (e : ∀ s, t ≤ s → s < t + (X.length + 1) → fA y 89 s = fA x 89 s ∧ fA y 90 s = fA x 90 s ∧ fA y 91 s = fA x 91 s ∧ fA y 94 s = fA x 94 s ∧ fL y 92 s = fL x 92 s ∧ fL y 93 s = fL x 93 s) (e5 : ∀ i, i < dE → fL y 95 i = fL x 95 i) (hd : dE ≤ dE') (e2 : ∀ i, i < b → fA y 82 i = fA x 82 i) (hb : b ≤ b') : CkC y F b' dE' t c first X := by
  obtain ⟨h1, h2, h3⟩ := h
  obtain ⟨a1, a2, a3, a4, a5, a6⟩ := e t (Nat.le_refl _) (by omega)
  refine ⟨h1.up a1 a2 a3 a5 a6 e2 hb, a4.trans h2, fun k hk => ?_⟩
  obtain ⟨c1, c2, c3, c4, c5, c6⟩ := e (t + 1 + k) (by omega) (by omega)
  obtain ⟨g1, g2⟩ := h3 k hk
  exact ⟨g1.up c1 c2 c3 c5 c6 e2 hb, g2.up c4 e5 hd e2 hb⟩
theorem StR.up {N G0 c rh first : Nat} {C : List SEn} (h : StR x N G0 c rh first C) (e : ∀ j, j < rh → fA y 86 ((G0 + j) * N + c) = fA x 86 ((G0 + j) * N + c)) : StR y N G0 c rh first C := fun k h1 h2 h3 h4 => (e _ h3).trans (h k h1 h2 h3 h4)
theorem CsC.up {G : List Nat} {CK : List (List PgW)} (h : CsC x F G b dE CK) (e : ∀ s, s < tlN CK → fA y 89 s = fA x 89 s ∧ fA y 90 s = fA x 90 s ∧ fA y 91 s = fA x 91 s ∧ fA y 94 s = fA x 94 s ∧ fL y 92 s = fL x 92 s ∧ fL y 93 s = fL x 93 s) (e8 : ∀ w, w < CK.length → fA y 88 w = fA x 88 w) (e6 : ∀ w, w < CK.length → ∀ j, j < G.getD (w / ncol F) 0 → fA y 86 ((smN (G.take (w / ncol F)) + j) * ncol F + w % ncol F) = fA x 86 ((smN (G.take (w / ncol F)) + j) * ncol F + w % ncol F)) (e5 : ∀ i, i < dE → fL y 95 i = fL x 95 i) (hd : dE ≤ dE') (e2 : ∀ i, i < b → fA y 82 i = fA x 82 i) (hb : b ≤ b') : CsC y F G b' dE' CK := fun w hw => by
  obtain ⟨h1, h2, h3⟩ := h w hw
  have m1 := tlN_mono (CK := CK) CK.length (w + 1) (by omega) (Nat.le_refl _)
  rw [tlN_take hw, List.take_length] at m1
  exact ⟨(e8 w hw).trans h1, h2.up (fun s _ s2 => e s (by omega)) e5 hd e2 hb, h3.up (e6 w hw)⟩
theorem StR.nil {N G0 c rh first : Nat} : StR x N G0 c rh first [] := fun k hk => absurd hk (Nat.not_lt_zero _)
theorem ckC_l {X : List PgW} {g : PgW} {k : Nat} (h : k ≤ X.length) : (X ++ [g]).take k = X.take k := List.take_append_of_le_length h
/-- one page more -/
theorem CkC.add {t c G0 rh : Nat} {E0 L : List SEn} {X : List PgW} {W : List PV} (h : CkC x F b dE t c E0.length X) (kp : KpP x y F b b' dE dE' c t (t + 1 + X.length) G0 rh (E0 ++ ckC X) (ckC X) L W) (e9 : fA y 89 = fA x 89) (e2 : ∀ i, i < b → fA y 82 i = fA x 82 i) : CkC y F b' dE' t c E0.length (X ++ [(L, W)]) := by
  obtain ⟨-, hb, hd, q4, q5, q6, q7, q8, q9, -⟩ := kp
  obtain ⟨h1, h2, h3⟩ := h
  rw [List.length_append, Nat.add_sub_cancel] at q4
  refine ⟨by rw [ckC_add]; exact q4, (q8 t (by omega)).trans h2, fun k hk => ?_⟩
  rw [List.length_append] at hk
  have hk : k < X.length + 1 := hk
  by_cases e : k = X.length
  · rw [e, ckC_l (Nat.le_refl _), List.take_length, getD_n]
    rw [List.length_append] at q5
    exact ⟨q5, q6⟩
  · obtain ⟨g1, g2⟩ := h3 k (by omega)
    obtain ⟨a1, a2, a3, a4⟩ := q7 (t + 1 + k) (by omega) (by omega)
    rw [ckC_l (by omega), getD_l (by omega)]
    exact ⟨g1.up (by rw [e9]) a1 a2 a3 a4 e2 hb, g2.up (q8 _ (by omega)) q9 hd e2 hb⟩
theorem StR.add {t c pg G0 rh : Nat} {E0 C L : List SEn} {W : List PV} (h : StR x (ncol F) G0 c rh E0.length C) (kp : KpP x y F b b' dE dE' c t pg G0 rh (E0 ++ C) C L W) (hN : 0 < ncol F) : StR y (ncol F) G0 c rh E0.length (C ++ L) := by
  obtain ⟨-, -, -, -, -, -, -, -, -, -, q11, q12⟩ := kp
  intro k hk h1 h2 h3
  rw [List.length_append] at hk
  by_cases ck : k < C.length
  · rw [getD_l ck] at h1
    rw [List.take_append_of_le_length (by omega)] at h2 h3 ⊢
    have lt : nR (C.take k) < nR C := by
      have a := nR_mono (E := C) (show k + 1 ≤ C.length by omega)
      rw [List.take_length, tk_sn (d := en0) ck, nR_app, nR_one, if_pos h1] at a
      omega
    rw [q12 _ (fun j j1 j2 z => ?_)]
    · exact h k ck h1 h2 h3
    · have : (G0 + nR (C.take k) + 1) * ncol F ≤ (G0 + j) * ncol F := Nat.mul_le_mul_right _ (by omega)
      rw [Nat.succ_mul] at this
      omega
  · obtain ⟨i, rfl⟩ : ∃ i, k = C.length + i := ⟨k - C.length, by omega⟩
    rw [getD_r] at h1
    have tk : (C ++ L).take (C.length + i) = C ++ L.take i := by rw [List.take_append, List.take_of_length_le (by omega), Nat.add_sub_cancel_left]
    rw [tk, nR_app] at h2 h3 ⊢
    have := q11 i (by omega) h1 h2 h3
    rw [this, List.length_append, Nat.add_assoc]
end
/-! the footer is read again -/
section
variable {T : Nat → Nat} {F : List SFd} {st : Nat}
theorem tdsO_pre : ∀ d c K p K' q, tdsO T F st d c K p = .ok (K', q) → K'.take K.length = K ∧ K'.length = K.length + d := by
  intro d
  induction d with
  | zero =>
    intro c K p K' q h
    simp only [tdsO, Except.ok.injEq, Prod.mk.injEq] at h
    rw [← h.1]
    exact ⟨List.take_length, rfl⟩
  | succ d ih =>
    intro c K p K' q h
    simp only [tdsO] at h
    split at h
    · cases h
    rename_i t q1 e
    obtain ⟨h1, h2⟩ := ih _ _ _ _ _ h
    rw [List.length_append] at h1 h2
    have h2 : K'.length = K.length + 1 + d := h2
    refine ⟨?_, by omega⟩
    have := congrArg (List.take K.length) h1
    rw [List.take_take, Nat.min_eq_left (by omega), List.take_append_of_le_length (Nat.le_refl _), List.take_length] at this
    exact this
theorem gpsO_pre (hT : ∀ i, T i < 256) : ∀ d G K p G' K' q, gpsO T F st d G K p = .ok ((G', K'), q) → p ≤ st → G'.take G.length = G ∧ G'.length = G.length + d ∧ K'.take K.length = K ∧ K'.length = K.length + ncol F * d ∧ p + 4 * (ncol F * d) ≤ q ∧ q ≤ st := by
  intro d
  induction d with
  | zero =>
    intro G K p G' K' q h hp
    simp only [gpsO, Except.ok.injEq, Prod.mk.injEq] at h
    rw [← h.1.1, ← h.1.2, ← h.2]
    exact ⟨List.take_length, rfl, List.take_length, rfl, Nat.le_refl _, hp⟩
  | succ d ih =>
    intro G K p G' K' q h hp
    simp only [gpsO] at h
    split at h
    · cases h
    rename_i r q1 e1
    have o1 := nm4_ok hT e1
    split at h
    · cases h
    split at h
    · cases h
    rename_i K1 q2 e2
    obtain ⟨t1, t2⟩ := tdsO_pre _ _ _ _ _ _ e2
    obtain ⟨t3, t4, -⟩ := tdsO_ok hT _ _ _ _ _ _ e2 (by omega)
    obtain ⟨h1, h2, h3, h4, h5, h6⟩ := ih _ _ _ _ _ _ h (by omega)
    rw [List.length_append] at h1 h2
    have h2 : G'.length = G.length + 1 + d := h2
    have em : ncol F * (d + 1) = ncol F * d + ncol F := Nat.mul_succ _ _
    refine ⟨?_, by omega, ?_, by omega, by omega, h6⟩
    · have := congrArg (List.take G.length) h1
      rw [List.take_take, Nat.min_eq_left (by omega), List.take_append_of_le_length (Nat.le_refl _), List.take_length] at this
      exact this
    · have := congrArg (List.take K.length) h3
      rw [List.take_take, Nat.min_eq_left (by omega), t1] at this
      exact this
theorem pre_at {α : Type} {L M : List α} {a d : α} (h : L.take (M ++ [a]).length = M ++ [a]) : L.getD M.length d = a := by
  have e : (L.take (M ++ [a]).length).getD M.length d = a := by rw [h, getD_n]
  rw [getD_tk (by rw [List.length_append]; show _ < _ + 1; omega)] at e
  exact e
end
