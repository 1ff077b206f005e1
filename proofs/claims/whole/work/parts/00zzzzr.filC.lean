/-! the file as the class makes it, and as the model does -/
def toG (RS : List (List SEn)) (g k : Nat) : Nat := min RS.length (k * g + g)
def ckX (F : List SFd) (RS : List (List SEn)) (most g k c : Nat) : Option (List Nat × Nat) := chX (tyC F c) (rF F (lfC F c)) (mdC F c) most (toG RS g k - k * g) (rwX RS c (k * g) (toG RS g k))
def cbX (F : List SFd) (RS : List (List SEn)) (g k c n m : Nat) : List Nat := chBX (tyC F c) (mdC F c) n m (rwX RS c (k * g) (toG RS g k)).flatten
def colR (F : List SFd) (RS : List (List SEn)) (most g k : Nat) : Nat → Nat → List Nat → List Nat → Option (List Nat × List Nat)
  | 0, _, W, D => some (W, D)
  | d + 1, c, W, D => match ckX F RS most g k c with
    | none => none
    | some z => if 40000 < (W ++ z.1).length ∨ 40000 < (D ++ cbX F RS g k c z.1.length z.2).length then none else colR F RS most g k d (c + 1) (W ++ z.1) (D ++ cbX F RS g k c z.1.length z.2)
def grpR (F : List SFd) (RS : List (List SEn)) (most g : Nat) : Nat → Nat → List Nat → List Nat → Option (List Nat × List Nat)
  | 0, _, W, D => some (W, D)
  | d + 1, k, W, D => match colR F RS most g k (ncol F) 0 W (D ++ varB (toG RS g k - k * g)) with
    | none => none
    | some z => grpR F RS most g d (k + 1) z.1 z.2
def hdB (F : List SFd) (RS : List (List SEn)) (g : Nat) : List Nat := varB F.length ++ (fdsB F F.length ++ (varB RS.length ++ varB (nGr RS g)))
def filC (F : List SFd) (RS : List (List SEn)) (most g : Nat) : Option (List Nat) := match grpR F RS most g (nGr RS g) 0 magB (hdB F RS g) with
  | none => none
  | some z => if 40000 < (z.1 ++ endB z.2).length then none else some (z.1 ++ endB z.2)
section
variable {F : List SFd} {RS : List (List SEn)} {most g : Nat}
theorem ckX_eq {k c : Nat} (hm : most ≤ 1000) (hk : k * g ≤ RS.length) (hc : c < ncol F) : ckF F RS most g (k * ncol F + c) = ckX F RS most g k c := by
  rw [ckF_at hc]
  exact chF_x hm (by omega) _ _ (by omega)
def colT (F : List SFd) (RS : List (List SEn)) (BL PG : Nat → Nat) (g k : Nat) : Nat → Nat → List Nat
  | 0, _ => []
  | d + 1, c => cbX F RS g k c (BL (k * ncol F + c)) (PG (k * ncol F + c)) ++ colT F RS BL PG g k d (c + 1)
theorem colT_eq {BL PG : Nat → Nat} {k : Nat} (hk : k * g ≤ RS.length) : ∀ d c, colsF F RS BL PG (k * g) (toG RS g k) (k * ncol F) (c + d) = colsF F RS BL PG (k * g) (toG RS g k) (k * ncol F) c ++ colT F RS BL PG g k d c := by
  intro d
  induction d with
  | zero => intro c; show _ = _ ++ []; rw [List.append_nil]; rfl
  | succ d ih =>
    intro c
    rw [show c + (d + 1) = (c + 1) + d by omega, ih (c + 1)]
    show colsF F RS BL PG (k * g) (toG RS g k) (k * ncol F) c ++ chB RS.flatten (tyC F c) (mdC F c) (BL (k * ncol F + c)) (PG (k * ncol F + c)) (cs RS c (k * g) (toG RS g k)) ++ _ = _ ++ (_ ++ _)
    rw [chB_x (show k * g ≤ toG RS g k by unfold toG; omega), List.append_assoc]
    rfl
theorem allF_succ {f : Nat → Option (List Nat × Nat)} {n : Nat} {W : List Nat} (h : allF f n = some W) : allF f (n + 1) = match f n with | none => none | some z => some (W ++ z.1) := by
  simp only [allF]
  rw [h]
  cases f n <;> rfl
theorem allF_mono {f : Nat → Option (List Nat × Nat)} {n m : Nat} (hnm : n ≤ m) : allF f n = none → allF f m = none := fun h => by
  have := allF_none h (m - n)
  rw [show n + (m - n) = m by omega] at this
  exact this
theorem allF_len {f : Nat → Option (List Nat × Nat)} {n m : Nat} {W V : List Nat} (hnm : n ≤ m) (h : allF f n = some W) (k : allF f m = some V) : W.length ≤ V.length :=
  allF_le h (m - n) V (by rw [show n + (m - n) = m by omega]; exact k)
theorem colR_spec {k : Nat} (hm : most ≤ 1000) (hk : k * g ≤ RS.length) : ∀ d c W0 D, c + d = ncol F → allF (ckF F RS most g) (k * ncol F + c) = some W0 →
    (∀ z, colR F RS most g k d c (magB ++ W0) D = some z → ∃ W1, allF (ckF F RS most g) (k * ncol F + ncol F) = some W1 ∧ z.1 = magB ++ W1 ∧ z.2 = D ++ colT F RS (blF F RS most g) (pgF F RS most g) g k d c) ∧
    (colR F RS most g k d c (magB ++ W0) D = none → ∀ W1, allF (ckF F RS most g) (k * ncol F + ncol F) = some W1 → 40000 < (magB ++ W1).length ∨ 40000 < (D ++ colT F RS (blF F RS most g) (pgF F RS most g) g k d c).length) := by
  intro d
  induction d with
  | zero =>
    intro c W0 D hc h
    have ec : c = ncol F := by omega
    subst ec
    refine ⟨fun z hz => ?_, fun hz => absurd hz (by simp [colR])⟩
    simp only [colR, Option.some.injEq] at hz
    rw [← hz]
    exact ⟨W0, h, rfl, by show D = D ++ []; rw [List.append_nil]⟩
  | succ d ih =>
    intro c W0 D hc h
    have ek := ckX_eq (F := F) (RS := RS) (most := most) (g := g) (k := k) (c := c) hm hk (by omega)
    have es := allF_succ h
    rw [ek] at es
    cases e : ckX F RS most g k c with
    | none =>
      rw [e] at es
      have en := allF_mono (m := k * ncol F + ncol F) (by omega) es
      refine ⟨fun z hz => ?_, fun _ W1 h1 => absurd (en.symm.trans h1) (by simp)⟩
      simp only [colR] at hz
      rw [e] at hz
      exact absurd hz (by simp)
    | some w =>
      rw [e] at es
      have eb : blF F RS most g (k * ncol F + c) = w.1.length := by unfold blF; rw [ek, e]
      have ep : pgF F RS most g (k * ncol F + c) = w.2 := by unfold pgF; rw [ek, e]
      have eT : colT F RS (blF F RS most g) (pgF F RS most g) g k (d + 1) c = cbX F RS g k c w.1.length w.2 ++ colT F RS (blF F RS most g) (pgF F RS most g) g k d (c + 1) := by
        show cbX F RS g k c (blF F RS most g (k * ncol F + c)) (pgF F RS most g (k * ncol F + c)) ++ _ = _
        rw [eb, ep]
      have il := ih (c + 1) (W0 ++ w.1) (D ++ cbX F RS g k c w.1.length w.2) (by omega) es
      rw [← List.append_assoc] at il
      rw [eT, ← List.append_assoc]
      have eR : colR F RS most g k (d + 1) c (magB ++ W0) D = if 40000 < (magB ++ W0 ++ w.1).length ∨ 40000 < (D ++ cbX F RS g k c w.1.length w.2).length then none else colR F RS most g k d (c + 1) (magB ++ W0 ++ w.1) (D ++ cbX F RS g k c w.1.length w.2) := by
        simp only [colR]
        rw [e]
      rw [eR]
      by_cases co : 40000 < (magB ++ W0 ++ w.1).length ∨ 40000 < (D ++ cbX F RS g k c w.1.length w.2).length
      · rw [if_pos co]
        refine ⟨fun z hz => absurd hz (by simp), fun _ W1 h1 => ?_⟩
        rcases co with q | q
        · have := allF_len (by omega) es h1
          refine Or.inl ?_
          simp only [List.length_append] at this q ⊢
          omega
        · refine Or.inr ?_
          rw [List.length_append]
          omega
      · rw [if_neg co]
        exact il
theorem gp_step {BL PG : Nat → Nat} {d k : Nat} (h : k * g < RS.length) (hd : RS.length ≤ k * g + d) : gpF F RS BL PG g d (k * g) (k * ncol F) = varB (toG RS g k - k * g) ++ (colT F RS BL PG g k (ncol F) 0 ++ gpF F RS BL PG g (d - 1) ((k + 1) * g) ((k + 1) * ncol F)) := by
  obtain ⟨d', rfl⟩ : ∃ d', d = d' + 1 := ⟨d - 1, by omega⟩
  have e := colT_eq (F := F) (RS := RS) (BL := BL) (PG := PG) (g := g) (k := k) (by omega) (ncol F) 0
  rw [Nat.zero_add] at e
  have e0 : colsF F RS BL PG (k * g) (toG RS g k) (k * ncol F) 0 = [] := rfl
  rw [e0, List.nil_append] at e
  simp only [gpF]
  rw [if_neg (by omega), ← e, Nat.succ_mul, Nat.succ_mul]
  rfl
theorem grpR_spec (hm : most ≤ 1000) (hg : 1 ≤ g) : ∀ d k W0 D e, k + d = nGr RS g → RS.length ≤ k * g + e → allF (ckF F RS most g) (k * ncol F) = some W0 →
    (∀ z, grpR F RS most g d k (magB ++ W0) D = some z → ∃ W1, allF (ckF F RS most g) (nGr RS g * ncol F) = some W1 ∧ z.1 = magB ++ W1 ∧ z.2 = D ++ gpF F RS (blF F RS most g) (pgF F RS most g) g e (k * g) (k * ncol F)) ∧
    (grpR F RS most g d k (magB ++ W0) D = none → ∀ W1, allF (ckF F RS most g) (nGr RS g * ncol F) = some W1 → 40000 < (magB ++ W1).length ∨ 40000 < (D ++ gpF F RS (blF F RS most g) (pgF F RS most g) g e (k * g) (k * ncol F)).length) := by
  intro d
  induction d with
  | zero =>
    intro k W0 D e hk he h
    have ec : k = nGr RS g := by omega
    subst ec
    have hge : ¬ nGr RS g * g < RS.length := fun z => by have := (gr_lt hg).mp z; unfold nGr at this; omega
    have e0 : gpF F RS (blF F RS most g) (pgF F RS most g) g e (nGr RS g * g) (nGr RS g * ncol F) = [] := by
      cases e with
      | zero => rfl
      | succ e => simp only [gpF]; exact if_pos (by omega)
    rw [e0, List.append_nil]
    refine ⟨fun z hz => ?_, fun hz => absurd hz (by simp [grpR])⟩
    simp only [grpR, Option.some.injEq] at hz
    rw [← hz]
    exact ⟨W0, h, rfl, rfl⟩
  | succ d ih =>
    intro k W0 D e hk he h
    have hlt : k * g < RS.length := (gr_lt hg).mpr (show k < nGr RS g by omega)
    have s1 : (k + 1) * ncol F = k * ncol F + ncol F := Nat.succ_mul _ _
    have s2 : (k + 1) * g = k * g + g := Nat.succ_mul _ _
    have mle : (k + 1) * ncol F ≤ nGr RS g * ncol F := Nat.mul_le_mul_right _ (by omega)
    rw [gp_step hlt he]
    obtain ⟨c1, c2⟩ := colR_spec (F := F) (k := k) hm (by omega) (ncol F) 0 W0 (D ++ varB (toG RS g k - k * g)) (by omega) h
    rw [← s1] at c1 c2
    cases ec : colR F RS most g k (ncol F) 0 (magB ++ W0) (D ++ varB (toG RS g k - k * g)) with
    | none =>
      have eR : grpR F RS most g (d + 1) k (magB ++ W0) D = none := by
        simp only [grpR]
        rw [ec]
      rw [eR]
      refine ⟨fun z hz => absurd hz (by simp), fun _ W1 h1 => ?_⟩
      cases e2 : allF (ckF F RS most g) ((k + 1) * ncol F) with
      | none => exact absurd ((allF_mono mle e2).symm.trans h1) (by simp)
      | some V =>
        have := allF_len mle e2 h1
        rcases c2 ec V e2 with q | q
        · refine Or.inl ?_
          rw [List.length_append] at q ⊢
          omega
        · refine Or.inr ?_
          simp only [List.length_append] at q ⊢
          omega
    | some w =>
      obtain ⟨W1, q1, q2, q3⟩ := c1 w ec
      have eR : grpR F RS most g (d + 1) k (magB ++ W0) D = grpR F RS most g d (k + 1) (magB ++ W1) (D ++ varB (toG RS g k - k * g) ++ colT F RS (blF F RS most g) (pgF F RS most g) g k (ncol F) 0) := by
        simp only [grpR]
        rw [ec]
        simp only
        rw [q2, q3]
      have il := ih (k + 1) W1 (D ++ varB (toG RS g k - k * g) ++ colT F RS (blF F RS most g) (pgF F RS most g) g k (ncol F) 0) (e - 1) (by omega) (by omega) q1
      rw [eR]
      simp only [List.append_assoc] at il ⊢
      exact il
theorem filC_eq (hm : most ≤ 1000) (hg : 1 ≤ g) : filC F RS most g = filB F RS most g := by
  have h0 : allF (ckF F RS most g) (0 * ncol F) = some [] := by rw [Nat.zero_mul]; rfl
  obtain ⟨c1, c2⟩ := grpR_spec (F := F) (RS := RS) hm hg (nGr RS g) 0 [] (hdB F RS g) RS.length (by omega) (by omega) h0
  rw [List.append_nil, Nat.zero_mul, Nat.zero_mul] at c1 c2
  have eD : hdB F RS g ++ gpF F RS (blF F RS most g) (pgF F RS most g) g RS.length 0 0 = ftF F RS most g := by
    unfold hdB ftF footB nGr
    simp only [List.append_assoc]
  rw [eD] at c1 c2
  have len : ∀ W1 : List Nat, (magB ++ W1 ++ endB (ftF F RS most g)).length = (magB ++ W1).length + (ftF F RS most g).length + 12 := fun W1 => by
    unfold endB ckB
    simp only [List.length_append]
    show 4 + W1.length + ((ftF F RS most g).length + (4 + (4 + 4))) = 4 + W1.length + (ftF F RS most g).length + 12
    omega
  unfold filC
  cases ec : grpR F RS most g (nGr RS g) 0 magB (hdB F RS g) with
  | none =>
    simp only
    unfold filB
    cases e2 : allF (ckF F RS most g) (nGr RS g * ncol F) with
    | none => rfl
    | some W1 =>
      simp only
      have := c2 ec W1 e2
      exact (if_neg (by omega)).symm
  | some w =>
    obtain ⟨W1, q1, q2, q3⟩ := c1 w ec
    simp only
    unfold filB
    rw [q1, q2, q3]
    simp only
    have := len W1
    by_cases co : 40000 < (magB ++ W1 ++ endB (ftF F RS most g)).length
    · rw [if_pos co, if_neg (by omega)]
    · rw [if_neg co, if_pos (by omega), List.append_assoc]
end
