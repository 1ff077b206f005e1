/-! columns go in step -/
def rst (r : Nat) : List SEn → List SEn
  | [] => []
  | _ :: S => S.dropWhile (fun e => decide (r < e.2.1))
def hdR' (S : List SEn) : Nat := (S.getD 0 en0).2.1
def hdD (S : List SEn) : Nat := (S.getD 0 en0).2.2.1
def rgF (F : List SFd) (g : Int32) : Nat := upS (wRep (fKd F)) (fPa F) g
theorem dw_suf {p : SEn → Bool} : ∀ S : List SEn, ∃ k, S.dropWhile p = S.drop k ∧ k ≤ S.length ∧ (∀ i, i < k → p (S.getD i en0) = true) ∧ (k < S.length → p (S.getD k en0) = false) := by
  intro S
  induction S with
  | nil => exact ⟨0, rfl, Nat.le_refl _, fun i hi => absurd hi (Nat.not_lt_zero _), fun h => absurd h (Nat.not_lt_zero _)⟩
  | cons e S ih =>
    by_cases c : p e = true
    · obtain ⟨k, k1, k2, k3, k4⟩ := ih
      refine ⟨k + 1, ?_, by rw [List.length_cons]; omega, fun i hi => ?_, fun h => ?_⟩
      · rw [List.dropWhile_cons, if_pos c, k1]; rfl
      · cases i with
        | zero => exact c
        | succ i => exact k3 i (by omega)
      · rw [List.length_cons] at h
        exact k4 (by omega)
    · refine ⟨0, ?_, Nat.zero_le _, fun i hi => absurd hi (Nat.not_lt_zero _), fun _ => ?_⟩
      · rw [List.dropWhile_cons, if_neg c]; rfl
      · show p e = false
        cases h : p e
        · rfl
        · exact absurd h c
/-- the rest: behind the first and those that go with it -/
theorem rst_is (r : Nat) {S : List SEn} (h : S ≠ []) : ∃ k, 1 ≤ k ∧ k ≤ S.length ∧ rst r S = S.drop k ∧ (∀ i, 1 ≤ i → i < k → r < (S.getD i en0).2.1) ∧ (k < S.length → (S.getD k en0).2.1 ≤ r) := by
  cases S with
  | nil => exact absurd rfl h
  | cons e S =>
    obtain ⟨k, k1, k2, k3, k4⟩ := dw_suf (p := fun e => decide (r < e.2.1)) S
    refine ⟨k + 1, by omega, by rw [List.length_cons]; omega, ?_, fun i i1 i2 => ?_, fun hk => ?_⟩
    · show S.dropWhile _ = _
      rw [k1]; rfl
    · obtain ⟨j, rfl⟩ : ∃ j, i = j + 1 := ⟨i - 1, by omega⟩
      exact of_decide_eq_true (k3 j (by omega))
    · rw [List.length_cons] at hk
      have := of_decide_eq_false (k4 (by omega))
      exact Nat.not_lt.mp this
/-- where the rest begins decides what it is -/
theorem rst_at {r k : Nat} {S : List SEn} (k1 : 1 ≤ k) (k2 : k ≤ S.length) (h1 : ∀ i, 1 ≤ i → i < k → r < (S.getD i en0).2.1) (h2 : k < S.length → (S.getD k en0).2.1 ≤ r) : rst r S = S.drop k := by
  have ne : S ≠ [] := fun z => by rw [z] at k2; have : k ≤ 0 := k2; omega
  obtain ⟨j, j1, j2, j3, j4, j5⟩ := rst_is r ne
  have e : j = k := by
    rcases Nat.lt_trichotomy j k with z | z | z
    · have := h1 j j1 z
      have := j5 (by omega)
      omega
    · exact z
    · have := j4 k k1 z
      have := h2 (by omega)
      omega
  rw [j3, e]
theorem getD_dr {α : Type} {S : List α} {k i : Nat} {d : α} : (S.drop k).getD i d = S.getD (k + i) d := by
  rw [List.getD_eq_getElem?_getD, List.getElem?_drop, List.getD_eq_getElem?_getD]
theorem rst_len {r : Nat} {S : List SEn} (h : S ≠ []) : (rst r S).length < S.length := by
  obtain ⟨k, k1, k2, k3, -⟩ := rst_is r h
  rw [k3, List.length_drop]
  omega
theorem rst_hd {r : Nat} {S : List SEn} (h : rst r S ≠ []) : hdR' (rst r S) ≤ r := by
  have ne : S ≠ [] := fun z => by rw [z] at h; exact h rfl
  obtain ⟨k, k1, k2, k3, k4, k5⟩ := rst_is r ne
  have lt : k < S.length := by
    rcases Nat.lt_or_ge k S.length with z | z
    · exact z
    · rw [k3, List.drop_eq_nil_of_le z] at h; exact absurd rfl h
  unfold hdR'
  rw [k3, getD_dr, Nat.add_zero]
  exact k5 lt
/-- what is kept of a list by a group -/
theorem fl2_cons {r d : Nat} {e : SEn} {S : List SEn} : fl2 r d (e :: S) = (if e.2.1 ≤ r then [(e.2.1, min e.2.2.1 d)] else []) ++ fl2 r d S := by
  rw [show e :: S = [e] ++ S from rfl, fl2_app, fl2_one]
def rst2 (r : Nat) : List (Nat × Nat) → List (Nat × Nat)
  | [] => []
  | _ :: P => P.dropWhile (fun p => decide (r < p.1))
theorem fl2_dw {r s d : Nat} (h : r ≤ s) : ∀ S : List SEn, fl2 s d (S.dropWhile (fun e => decide (r < e.2.1))) = (fl2 s d S).dropWhile (fun p => decide (r < p.1)) := by
  intro S
  induction S with
  | nil => rfl
  | cons e S ih =>
    rw [fl2_cons]
    by_cases c : r < e.2.1
    · rw [List.dropWhile_cons, if_pos (decide_eq_true c), ih]
      by_cases c2 : e.2.1 ≤ s
      · rw [if_pos c2, List.singleton_append, List.dropWhile_cons, if_pos (decide_eq_true c)]
      · rw [if_neg c2, List.nil_append]
    · rw [List.dropWhile_cons, if_neg (by rw [decide_eq_false c]; decide), fl2_cons, if_pos (show e.2.1 ≤ s by omega), List.singleton_append, List.dropWhile_cons, if_neg (by rw [decide_eq_false c]; decide)]
theorem fl2_rst {r s d : Nat} {S : List SEn} (h : r ≤ s) (h0 : S ≠ [] → hdR' S ≤ s) : fl2 s d (rst r S) = rst2 r (fl2 s d S) := by
  cases S with
  | nil => rfl
  | cons e S =>
    have h0 : e.2.1 ≤ s := h0 (by simp)
    rw [fl2_cons, if_pos h0, List.singleton_append]
    exact fl2_dw h S
/-- equal kept lists: the heads are equal -/
theorem fl2_hd {s d : Nat} {A B : List SEn} (h : fl2 s d A = fl2 s d B) (ha : A ≠ []) (hb : B ≠ []) (a0 : hdR' A ≤ s) (b0 : hdR' B ≤ s) : hdR' A = hdR' B ∧ min (hdD A) d = min (hdD B) d := by
  cases A with
  | nil => exact absurd rfl ha
  | cons e A =>
    cases B with
    | nil => exact absurd rfl hb
    | cons f B =>
      have a0 : e.2.1 ≤ s := a0
      have b0 : f.2.1 ≤ s := b0
      rw [fl2_cons, fl2_cons, if_pos a0, if_pos b0, List.singleton_append, List.singleton_append] at h
      have := Prod.mk.inj (List.cons.inj h).1
      exact ⟨this.1, this.2⟩
theorem fl2_nil {s d : Nat} {A B : List SEn} (h : fl2 s d A = fl2 s d B) (hb : B ≠ [] → hdR' B ≤ s) (ha : A = []) : B = [] := by
  rw [ha] at h
  cases B with
  | nil => rfl
  | cons f B =>
    have b0 : f.2.1 ≤ s := hb (by simp)
    rw [fl2_cons, if_pos b0] at h
    exact absurd h (by simp [fl2])
/-- a wider group tells less -/
theorem fl2_le {r s d e : Nat} {A B : List SEn} (hr : r ≤ s) (hd : d ≤ e) (h : fl2 s e A = fl2 s e B) : fl2 r d A = fl2 r d B := by
  have key : ∀ S : List SEn, fl2 r d S = ((fl2 s e S).filter (fun p => decide (p.1 ≤ r))).map (fun p => (p.1, min p.2 d)) := by
    intro S
    induction S with
    | nil => rfl
    | cons f S ih =>
      rw [fl2_cons, fl2_cons, ih]
      by_cases c : f.2.1 ≤ r
      · rw [if_pos c, if_pos (show f.2.1 ≤ s by omega), List.singleton_append, List.singleton_append, List.filter_cons, if_pos (decide_eq_true c), List.map_cons]
        show (f.2.1, min f.2.2.1 d) :: _ = (f.2.1, min (min f.2.2.1 e) d) :: _
        rw [Nat.min_assoc, Nat.min_eq_right hd]
      · rw [if_neg c, List.nil_append]
        by_cases c2 : f.2.1 ≤ s
        · rw [if_pos c2, List.singleton_append, List.filter_cons, if_neg (by rw [decide_eq_false c]; decide)]
        · rw [if_neg c2, List.nil_append]
  rw [key A, key B, h]
section
variable {F : List SFd}
theorem OrdL.drop {leaf k : Nat} {S : List SEn} (h : OrdL F leaf S) : OrdL F leaf (S.drop k) := by
  intro i i1 i2 i3
  rw [List.length_drop] at i2
  rw [getD_dr] at i3 ⊢
  rw [getD_dr, show k + (i - 1) = k + i - 1 by omega]
  exact h (k + i) (by omega) (by omega) i3
theorem OrdL.rst {leaf r : Nat} {S : List SEn} (h : OrdL F leaf S) : OrdL F leaf (rst r S) := by
  by_cases e : S = []
  · rw [e]; exact fun k _ h => absurd h (Nat.not_lt_zero _)
  · obtain ⟨k, -, -, k3, -⟩ := rst_is r e
    rw [k3]; exact h.drop
/-- of the field around a leaf where a level begins -/
theorem tpR_rep {leaf f : Nat} (hw : WfS F) (hl : leaf < F.length) (hf : f < F.length) (d : dsc F f leaf) (hk : fKd F f = 2) : tpR F leaf (rF F f) = f := by
  refine tpR_is hf d (Nat.le_refl _) (fun g hg gd gr => ?_)
  have l1 := (dsc_iff hw (by omega) hl).mp gd
  have l2 := (dsc_iff hw hf hl).mp d
  have gf : dsc F g f := (dsc_iff hw (by omega) hf).mpr ⟨by omega, by omega⟩
  obtain ⟨h, h1, h2, h3⟩ := dsc_pa hw hf gf (by omega)
  have := rF_mono hw h (by omega) h3
  have ur := upS_at (w := wRep (fKd F)) hw.2.2.1 hf
  rw [h2] at ur
  have w1 : wRep (fKd F) f = 1 := if_pos hk
  have e1 : rF F f = upS (wRep (fKd F)) (fPa F) (nI f) := rfl
  have e2 : rF F h = upS (wRep (fKd F)) (fPa F) (nI h) := rfl
  omega
theorem dG_mono (hw : WfS F) {g : Nat} : ∀ f, f < F.length → dsc F g f → dG F (nI g) ≤ dG F (nI f) := by
  intro f
  induction f using Nat.strongRecOn with
  | ind f ih =>
    intro hf d
    by_cases e : f = g
    · rw [e]; exact Nat.le_refl _
    · obtain ⟨h, h1, h2, h3⟩ := dsc_pa hw hf d e
      have := ih h h1 (by omega) h3
      have u := upS_at (w := wDef (fKd F)) hw.2.2.1 hf
      rw [h2] at u
      show dG F (nI g) ≤ upS (wDef (fKd F)) (fPa F) (nI f)
      rw [u]
      have : dG F (nI g) ≤ upS (wDef (fKd F)) (fPa F) (nI h) := this
      omega
/-- a level above a field's own belongs to it or to a field in it -/
theorem tpR_in {leaf f r : Nat} (hw : WfS F) (hl : leaf < F.length) (hf : f < F.length) (d : dsc F f leaf) (hr : rgF F (fPa F f) < r) (hr2 : r ≤ rF F leaf) : dG F (nI f) ≤ dG F (nI (tpR F leaf r)) := by
  -- the topmost field around the leaf with that level
  have ex : ∃ t, t < F.length ∧ dsc F t leaf ∧ r ≤ rF F t ∧ ∀ g, g < t → dsc F g leaf → ¬ r ≤ rF F g := by
    have : ∀ m t, t < F.length → dsc F t leaf → r ≤ rF F t → t ≤ m → ∃ t, t < F.length ∧ dsc F t leaf ∧ r ≤ rF F t ∧ ∀ g, g < t → dsc F g leaf → ¬ r ≤ rF F g := by
      intro m
      induction m with
      | zero => intro t t1 t2 t3 t4; exact ⟨t, t1, t2, t3, fun g hg => by omega⟩
      | succ m ih =>
        intro t t1 t2 t3 t4
        by_cases c : ∃ g, g < t ∧ dsc F g leaf ∧ r ≤ rF F g
        · obtain ⟨g, g1, g2, g3⟩ := c
          exact ih g (by omega) g2 g3 (by omega)
        · exact ⟨t, t1, t2, t3, fun g hg gd gr => c ⟨g, hg, gd, gr⟩⟩
    exact this leaf leaf hl (dsc_self hw hl) hr2 (Nat.le_refl _)
  obtain ⟨t, t1, t2, t3, t4⟩ := ex
  rw [tpR_is t1 t2 t3 t4]
  have l1 := (dsc_iff hw t1 hl).mp t2
  have l2 := (dsc_iff hw hf hl).mp d
  rcases Nat.lt_or_ge t f with z | z
  · -- above f: then its level is not above that of what is around f
    have tf : dsc F t f := (dsc_iff hw t1 hf).mpr ⟨by omega, by omega⟩
    obtain ⟨h, h1, h2, h3⟩ := dsc_pa hw hf tf (by omega)
    have := rF_mono hw h (by omega) h3
    rw [h2] at hr
    have e : rgF F (nI h) = rF F h := rfl
    omega
  · have ft : dsc F f t := (dsc_iff hw hf t1).mpr ⟨z, by omega⟩
    exact dG_mono hw t t1 ft
end
