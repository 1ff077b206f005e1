/-! a schema as a list of fields: kind, type, group, name; how the model holds it in a slot -/
abbrev SFd : Type := Int32 × Int32 × Int32 × List Int32
def fd0 : SFd := (0, 0, -1, [])
abbrev fKd (F : List SFd) (f : Nat) : Int32 := (F.getD f fd0).1
abbrev fTy (F : List SFd) (f : Nat) : Int32 := (F.getD f fd0).2.1
abbrev fPa (F : List SFd) (f : Nat) : Int32 := (F.getD f fd0).2.2.1
abbrev fNm (F : List SFd) (f : Nat) : List Int32 := (F.getD f fd0).2.2.2
/-- how many columns there are among them -/
def ncol : List SFd → Nat
  | [] => 0
  | z :: F => (if z.2.1 = 4 then 0 else 1) + ncol F
theorem ncol_app (F G : List SFd) : ncol (F ++ G) = ncol F + ncol G := by
  induction F with
  | nil => show ncol G = 0 + ncol G; omega
  | cons z F ih => show (if z.2.1 = 4 then 0 else 1) + ncol (F ++ G) = (if z.2.1 = 4 then 0 else 1) + ncol F + ncol G; omega
theorem ncol_le (F : List SFd) : ncol F ≤ F.length := by
  induction F with
  | nil => exact Nat.le_refl 0
  | cons z F ih => show (if z.2.1 = 4 then 0 else 1) + ncol F ≤ F.length + 1; split <;> omega
theorem ncol_take (F : List SFd) (k : Nat) : ncol (F.take k) ≤ ncol F := by
  have e := ncol_app (F.take k) (F.drop k)
  rw [List.take_append_drop] at e
  omega
theorem getD_app {F : List SFd} {z : SFd} {f : Nat} (h : f < F.length) : (F ++ [z]).getD f fd0 = F.getD f fd0 := by
  rw [List.getD_eq_getElem?_getD, List.getD_eq_getElem?_getD, List.getElem?_append_left h]
theorem getD_new {F : List SFd} {z : SFd} : (F ++ [z]).getD F.length fd0 = z := by
  rw [List.getD_eq_getElem?_getD, List.getElem?_append_right (Nat.le_refl _), Nat.sub_self]
  rfl
theorem take_app {F : List SFd} {z : SFd} {f : Nat} (h : f ≤ F.length) : (F ++ [z]).take f = F.take f := List.take_append_of_le_length h
theorem ncol_lt {F : List SFd} {f : Nat} (h : f < F.length) (ht : fTy F f ≠ 4) : ncol (F.take f) < ncol F := by
  have e := ncol_app (F.take f) (F.drop f)
  rw [List.take_append_drop, List.drop_eq_getElem_cons h] at e
  have e2 : F.getD f fd0 = F[f] := by rw [List.getD_eq_getElem?_getD, List.getElem?_eq_getElem h]; rfl
  have e3 : ncol (F[f] :: F.drop (f + 1)) = (if F[f].2.1 = 4 then 0 else 1) + ncol (F.drop (f + 1)) := rfl
  rw [e3, if_neg (by rw [← e2]; exact ht)] at e
  omega
def RepM (x : St) (q : Nat) (F : List SFd) : Prop :=
  fA x 9 q = nI F.length ∧ fA x 10 q = nI (ncol F) ∧
  (∀ f, f < F.length → fA x 3 (128 * q + f) = fKd F f ∧ fA x 4 (128 * q + f) = fTy F f ∧ fA x 5 (128 * q + f) = fPa F f ∧ fA x 7 (128 * q + f) = nI (fNm F f).length ∧ (∀ i, i < (fNm F f).length → fA x 8 (16 * (128 * q + f) + i) = (fNm F f).getD i 0) ∧ fA x 6 (128 * q + f) = if fTy F f = 4 then -1 else nI (ncol (F.take f))) ∧
  ∀ f, f < F.length → fTy F f ≠ 4 → fA x 11 (64 * q + ncol (F.take f)) = nI f
/-- a row's bytes from a place on, as a list -/
def rowL (f : Nat → Int32) (s n : Nat) : List Int32 := (List.range n).map (fun i => f (s + i))
theorem rowL_len {f : Nat → Int32} {s n : Nat} : (rowL f s n).length = n := by unfold rowL; rw [List.length_map, List.length_range]
theorem rowL_at {f : Nat → Int32} {s n i : Nat} (h : i < n) : (rowL f s n).getD i 0 = f (s + i) := by
  unfold rowL
  rw [List.getD_eq_getElem?_getD, List.getElem?_map, List.getElem?_range h]
  rfl
theorem RepM_add {x : St} {F : List SFd} {kd ty g : Int32} {r fr n : Nat} (h : RepM x 2 F) (hF : F.length < 128) (hC : ncol F ≤ 64) (hC2 : ty = 4 ∨ ncol F < 64) (hr : r ≠ 3 ∧ r ≠ 4 ∧ r ≠ 5 ∧ r ≠ 6 ∧ r ≠ 7 ∧ r ≠ 8) (hn : n ≤ 16) (hnl : ∀ f, f < F.length → (fNm F f).length ≤ 16) :
    RepM (adF x kd ty g r fr n F.length (ncol F)) 2 (F ++ [(kd, ty, g, rowL (fA x r) fr n)]) := by
  obtain ⟨h1, h2, h3, h4⟩ := h
  obtain ⟨r3, r4, r5, r6, r7, r8⟩ := hr
  have n2 : (2 : Int32) = nI 2 := rfl
  have hl : (F ++ [(kd, ty, g, rowL (fA x r) fr n)]).length = F.length + 1 := by rw [List.length_append]; rfl
  have hc : ncol (F ++ [(kd, ty, g, rowL (fA x r) fr n)]) = ncol F + (if ty = 4 then 0 else 1) := by rw [ncol_app]; show _ + ((if ty = 4 then 0 else 1) + 0) = _; omega
  -- what each row holds behind it
  have key : ∃ z : St, z = adF x kd ty g r fr n F.length (ncol F) ∧ fA z 3 = upd (fA x 3) (256 + F.length) kd ∧ fA z 4 = upd (fA x 4) (256 + F.length) ty ∧ fA z 5 = upd (fA x 5) (256 + F.length) g ∧ fA z 7 = upd (fA x 7) (256 + F.length) (nI n) ∧ fA z 8 = va_cpy (fA x r) (fA x 8) fr (16 * (256 + F.length)) n ∧ fA z 6 = upd (fA x 6) (256 + F.length) (if ty = 4 then -1 else nI (ncol F)) ∧ fA z 9 = upd (fA x 9) 2 (nI (F.length + 1)) ∧ fA z 10 = (if ty = 4 then fA x 10 else upd (fA x 10) 2 (nI (ncol F + 1))) ∧ fA z 11 = (if ty = 4 then fA x 11 else upd (fA x 11) (128 + ncol F) (nI F.length)) := by
    refine ⟨_, rfl, ?_⟩
    have c1 : (nI (256 + F.length)).toNatClampNeg = 256 + F.length := nI_clamp (by omega)
    have c2 : (nI 2).toNatClampNeg = 2 := nI_clamp (by decide)
    have c3 : (nI (128 + ncol F)).toNatClampNeg = 128 + ncol F := nI_clamp (by omega)
    unfold adF
    rw [n2]
    by_cases d : ty = 4
    · simp only [if_pos d]
      refine ⟨?_, ?_, ?_, ?_, ?_, ?_, ?_, ?_, ?_⟩ <;> funext j <;> simp [gAA, gWA, c1, c2, d, r3, r4, r5, r7]
    · simp only [if_neg d]
      refine ⟨?_, ?_, ?_, ?_, ?_, ?_, ?_, ?_, ?_⟩ <;> funext j <;> simp [gAA, gWA, c1, c2, c3, d, r3, r4, r5, r7]
  obtain ⟨z, hz, k3, k4, k5, k7, k8, k6, k9, k10, k11⟩ := key
  rw [← hz]
  clear hz
  refine ⟨?_, ?_, ?_, ?_⟩
  · rw [k9, hl, upd_at]
  · rw [k10, hc]
    by_cases d : ty = 4
    · rw [if_pos d, if_pos d]; exact h2
    · rw [if_neg d, if_neg d, upd_at]
  · intro f hf
    rw [hl] at hf
    rw [k3, k4, k5, k7, k8, k6]
    by_cases e : f = F.length
    · subst e
      rw [show 128 * 2 + F.length = 256 + F.length by omega, upd_at, upd_at, upd_at, upd_at, upd_at]
      simp only [fKd, fTy, fPa, fNm, getD_new]
      refine ⟨trivial, trivial, trivial, by rw [rowL_len], ?_, ?_⟩
      · intro i hi
        rw [rowL_len] at hi
        rw [rowL_at hi]
        show (if 16 * (256 + F.length) ≤ 16 * (256 + F.length) + i ∧ 16 * (256 + F.length) + i < 16 * (256 + F.length) + n then fA x r (fr + (16 * (256 + F.length) + i - 16 * (256 + F.length))) else _) = _
        rw [if_pos (by omega), show 16 * (256 + F.length) + i - 16 * (256 + F.length) = i by omega]
      · rw [take_app (Nat.le_refl _), List.take_length]
    · have hf2 : f < F.length := by omega
      obtain ⟨g1, g2, g3, g4, g5, g6⟩ := h3 f hf2
      have hnf := hnl f hf2
      simp only [fKd, fTy, fPa, fNm, getD_app hf2]
      rw [upd_ne (by omega), upd_ne (by omega), upd_ne (by omega), upd_ne (by omega), upd_ne (by omega), take_app (by omega)]
      refine ⟨g1, g2, g3, g4, ?_, g6⟩
      intro i hi
      have hi' : i < (fNm F f).length := hi
      show (if 16 * (256 + F.length) ≤ 16 * (128 * 2 + f) + i ∧ 16 * (128 * 2 + f) + i < 16 * (256 + F.length) + n then _ else fA x 8 (16 * (128 * 2 + f) + i)) = _
      rw [if_neg (by omega)]
      exact g5 i hi
  · intro f hf ht
    rw [hl] at hf
    rw [k11]
    by_cases e : f = F.length
    · subst e
      have ht2 : ¬ ty = 4 := by
        have : fTy (F ++ [(kd, ty, g, rowL (fA x r) fr n)]) F.length = ty := by simp only [fTy, getD_new]
        rw [this] at ht
        exact ht
      rw [if_neg ht2, take_app (Nat.le_refl _), List.take_length, show 64 * 2 + ncol F = 128 + ncol F by omega, upd_at]
    · have hf2 : f < F.length := by omega
      have ht2 : fTy F f ≠ 4 := by simp only [fTy, getD_app hf2] at ht; exact ht
      have q := ncol_lt hf2 ht2
      rw [take_app (by omega)]
      by_cases d : ty = 4
      · rw [if_pos d]; exact h4 f hf2 ht2
      · rw [if_neg d, upd_ne (by omega)]; exact h4 f hf2 ht2
