/-! SCHEMAS: what a text tells, step by step -/
def kW : List (List Nat) := [[114, 101, 113, 117, 105, 114, 101, 100], [111, 112, 116, 105, 111, 110, 97, 108], [114, 101, 112, 101, 97, 116, 101, 100]]
def tW : List (List Nat) := [[98, 111, 111, 108], [105, 110, 116], [108, 111, 110, 103], [116, 101, 120, 116], [103, 114, 111, 117, 112]]
/-- which of some words stands at a place -/
def wdAt (T : Nat → Int32) (n s : Nat) : List (List Nat) → Nat → Int32
  | [], _ => -1
  | b :: L, i => if isWd T n s b then nI i else wdAt T n s L (i + 1)
def mayF (F : List SFd) (ty g : Int32) : Bool := decide (F.length < 128 ∧ (ty = 4 → upS wOne (fPa F) g < 16) ∧ (¬ ty = 4 → ncol F < 64))
def hasN (F : List SFd) (g : Int32) (nm : List Int32) : Bool := (List.range F.length).any (fun f => decide (fPa F f = g ∧ fNm F f = nm))
/-- one FIELD (of a group its beginning): the place of what can't stand, or -1; the fields; the place behind; the group that is open then -/
def rdF (T : Nat → Int32) (n : Nat) (F : List SFd) (k : Nat) (g : Int32) : Int32 × List SFd × Nat × Int32 :=
  let s1 := skip T n k
  let kd := wdAt T n s1 kW 0
  if kd = -1 then (nI s1, F, s1, g) else
  let s2 := skip T n (s1 + (kW.getD kd.toNatClampNeg []).length)
  let ty := wdAt T n s2 tW 0
  if ty = -1 then (nI s2, F, s2, g) else
  let s3 := skip T n (s2 + (tW.getD ty.toNatClampNeg []).length)
  let w := wln T n s3
  if w = 0 ∨ 16 < w ∨ mayF F ty g = false ∨ hasN F g (rowL T s3 w) = true then (nI s3, F, s3, g) else
  let s4 := skip T n (s3 + w)
  if s4 < n ∧ T s4 = (if ty = 4 then 123 else 59) then (-1, F ++ [(kd, ty, g, rowL T s3 w)], s4 + 1, if ty = 4 then nI F.length else g) else (nI s4, F ++ [(kd, ty, g, rowL T s3 w)], s4, g)
def runS (T : Nat → Int32) (n : Nat) : Nat → List SFd → Nat → Int32 → Int32 × List SFd
  | 0, F, _, _ => (-3, F)
  | d + 1, F, k, g =>
    if ¬ skip T n k < n ∧ g = -1 ∧ F ≠ [] then (-1, F)
    else if skip T n k < n ∧ T (skip T n k) = 125 ∧ g ≠ -1 ∧ g ≠ nI (F.length - 1) then runS T n d F (skip T n k + 1) (fPa F g.toNatClampNeg)
    else if (rdF T n F k g).1 = -1 then runS T n d (rdF T n F k g).2.1 (rdF T n F k g).2.2.1 (rdF T n F k g).2.2.2 else ((rdF T n F k g).1, (rdF T n F k g).2.1)
/-- what a schema's fields keep -/
def WfS (F : List SFd) : Prop := F.length ≤ 128 ∧ ncol F ≤ 64 ∧ wfP (fPa F) F.length ∧
  (∀ f, f < F.length → (fKd F f = 0 ∨ fKd F f = 1 ∨ fKd F f = 2) ∧ 0 ≤ fTy F f ∧ fTy F f ≤ 4 ∧ 0 < (fNm F f).length ∧ (fNm F f).length ≤ 16) ∧
  (∀ f g, f < F.length → fPa F f = nI g → g < f → fTy F g = 4 ∧ upS (fun h => if h = g then 1 else 0) (fPa F) (nI (f - 1)) = 1) ∧
  (∀ f, f < F.length → fTy F f = 4 → upS wOne (fPa F) (nI f) ≤ 16) ∧
  ∀ f h, f < h → h < F.length → fPa F f = fPa F h → fNm F f ≠ fNm F h
theorem fnd_some {p : Nat → Bool} : ∀ {N : Nat}, N < 2 ^ 31 → (fnd p N = -1 ↔ ∀ f, f < N → p f = false) := by
  intro N
  induction N with
  | zero => intro _; exact ⟨fun _ f h => absurd h (Nat.not_lt_zero f), fun _ => rfl⟩
  | succ N ih =>
    intro hN
    show (if p N = true then nI N else fnd p N) = -1 ↔ _
    by_cases c : p N = true
    · rw [if_pos c]
      exact ⟨fun z => absurd z (nI_nm1 (by omega)), fun z => by have := z N (by omega); rw [c] at this; exact absurd this (by decide)⟩
    · rw [if_neg c, ih (by omega)]
      constructor
      · intro z f hf
        by_cases e : f = N
        · subst e; exact bt_f c
        · exact z f (by omega)
      · intro z f hf
        exact z f (by omega)
theorem hasN_iff {F : List SFd} {g : Int32} {nm : List Int32} : hasN F g nm = false ↔ ∀ f, f < F.length → ¬ (fPa F f = g ∧ fNm F f = nm) := by
  unfold hasN
  rw [List.any_eq_false]
  constructor
  · intro h f hf z
    exact h f (List.mem_range.mpr hf) (decide_eq_true z)
  · intro h f hf z
    exact h f (List.mem_range.mp hf) (of_decide_eq_true z)
/-- a name in the list is the bytes from a place on -/
theorem nm_eq {L : List Int32} {f : Nat → Int32} {s n : Nat} : L = rowL f s n ↔ L.length = n ∧ ∀ i, i < n → L.getD i 0 = f (s + i) := by
  constructor
  · intro e
    rw [e]
    exact ⟨rowL_len, fun i hi => rowL_at hi⟩
  · intro h
    apply List.ext_getElem?
    intro i
    by_cases c : i < n
    · have a := h.2 i c
      have b := @rowL_at f s n i c
      rw [List.getD_eq_getElem?_getD] at a b
      rw [List.getElem?_eq_getElem (by omega)] at a ⊢
      rw [List.getElem?_eq_getElem (by rw [rowL_len]; exact c)] at b ⊢
      have a : L[i]'(by omega) = f (s + i) := a
      have b : (rowL f s n)[i]'(by rw [rowL_len]; exact c) = f (s + i) := b
      rw [a, b]
    · rw [List.getElem?_eq_none (by omega), List.getElem?_eq_none (by rw [rowL_len]; omega)]
theorem mtM_iff {x : St} {q : Nat} {F : List SFd} {g : Int32} {r fr n f : Nat} (h : RepM x q F) (hw : WfS F) (hn : n < 2 ^ 31) (hf : f < F.length) : mtM x q g r fr n f = true ↔ fPa F f = g ∧ fNm F f = rowL (fA x r) fr n := by
  obtain ⟨g1, g2, g3, g4, g5, g6⟩ := h.2.2.1 f hf
  have hl := (hw.2.2.2.1 f hf).2.2.2.2
  unfold mtM
  rw [decide_eq_true_iff, g3, g4, nI_eq (by omega) hn, nm_eq]
  constructor
  · intro z
    refine ⟨z.1, z.2.1, fun i hi => ?_⟩
    rw [← g5 i (by omega)]
    exact z.2.2 i hi
  · intro z
    refine ⟨z.1, z.2.1, fun i hi => ?_⟩
    rw [g5 i (by omega)]
    exact z.2.2 i hi
