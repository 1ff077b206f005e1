/-! RECORDS: what a text tells -/
/-- a value that was read: the node it lies in, its field, its number, its bytes -/
abbrev SNd : Type := Int32 × Int32 × Int64 × List Int32
def nmF (T : Nat → Int32) (n k : Nat) : Int32 × Nat × Int64 :=
  if ¬ (nmK T n k < n ∧ dgt (T (nmK T n k))) then (nI (if nmK T n k = n then n else k), nmK T n k, 0)
  else if (dgO T n (nmK T n k) 0 false).2.2 = true ∨ (T (nmK T n k) = 48 ∧ ((k < n ∧ T k = 45) ∨ nmK T n k + 1 < (dgO T n (nmK T n k) 0 false).1)) ∨ (¬ (k < n ∧ T k = 45) ∧ (dgO T n (nmK T n k) 0 false).2.1 = -9223372036854775808) then (nI k, (dgO T n (nmK T n k) 0 false).1, 0)
  else (-1, (dgO T n (nmK T n k) 0 false).1, if k < n ∧ T k = 45 then (dgO T n (nmK T n k) 0 false).2.1 else -(dgO T n (nmK T n k) 0 false).2.1)
theorem nmF_ok {T : Nat → Int32} {n k k2 : Nat} {v : Int64} (h : nmOk T n k k2 v) : nmF T n k = (-1, k2, v) := by
  obtain ⟨h1, h2, h3, h4⟩ := h
  unfold nmF
  unfold nmBad at h3
  rw [if_neg (fun z => z h1), if_neg h3, h2, h4]
theorem nmF_er {T : Nat → Int32} {n k k2 e : Nat} (h : nmEr T n k k2 e) : (nmF T n k).1 = nI e ∧ (nmF T n k).2.1 = k2 := by
  unfold nmF
  rcases h with ⟨h1, h2, h3⟩ | ⟨h1, h2, h3, h4⟩
  · unfold nmD at h1
    rw [if_pos h1, h2, h3]
    exact ⟨rfl, rfl⟩
  · unfold nmBad at h3
    rw [if_neg (fun z => z h1), if_pos h3, h2, h4]
    exact ⟨rfl, rfl⟩
theorem nmEr_e {T : Nat → Int32} {n k k2 e : Nat} (hk : k ≤ n) (h : nmEr T n k k2 e) : e ≤ n ∧ k2 ≤ n := by
  have hK : nmK T n k ≤ n := by unfold nmK; split <;> omega
  rcases h with ⟨h1, h2, h3⟩ | ⟨h1, h2, h3, h4⟩
  · refine ⟨?_, by omega⟩
    rw [h3]
    split <;> omega
  · have := @dgO_le T n (nmK T n k) 0 false hK
    omega
theorem nmOk_k {T : Nat → Int32} {n k k2 : Nat} {v : Int64} (hk : k ≤ n) (h : nmOk T n k k2 v) : k < k2 ∧ k2 ≤ n := by
  have hK : k ≤ nmK T n k ∧ nmK T n k ≤ n := by unfold nmK; split <;> omega
  have a := @dgO_le T n (nmK T n k) 0 false hK.2
  have b := @dgO_pos T n (nmK T n k) 0 false h.1
  have := h.2.1
  omega
/-- a required field of a group lies from a to b -/
def missF (F : List SFd) (g : Int32) (a b : Nat) : Bool := (List.range b).any (fun f => decide (a ≤ f ∧ fPa F f = g ∧ fKd F f = 0))
theorem missF_iff {F : List SFd} {g : Int32} {a b : Nat} : missF F g a b = true ↔ ∃ f, a ≤ f ∧ f < b ∧ fPa F f = g ∧ fKd F f = 0 := by
  unfold missF
  rw [List.any_eq_true]
  constructor
  · rintro ⟨f, h1, h2⟩
    have h2 := of_decide_eq_true h2
    exact ⟨f, h2.1, List.mem_range.mp h1, h2.2⟩
  · rintro ⟨f, h1, h2, h3⟩
    exact ⟨f, List.mem_range.mpr h2, decide_eq_true ⟨h1, h3⟩⟩
/-- the field of a name in a group, or -1 -/
def fdF (F : List SFd) (g : Int32) (nm : List Int32) : Int32 := fnd (fun f => decide (fPa F f = g ∧ fNm F f = nm)) F.length
abbrev PGr : Type := Nat → Int32 → Nat → List SNd → Int32 × Nat × List SNd
section Gram
variable (T : Nat → Int32) (n : Nat) (F : List SFd) (P : PGr)
def pVal (k p f : Nat) (L : List SNd) : Int32 × Nat × List SNd :=
  if fTy F f = 4 then P (skip T n k) (nI f) L.length (L ++ [(nI p, nI f, 0, [])])
  else if fTy F f = 3 then
    (if skip T n k < n ∧ T (skip T n k) = 39 then
      (if (qtO T n (skip T n k + 1) []).1 = -1 then (-1, (qtO T n (skip T n k + 1) []).2.1, L ++ [(nI p, nI f, 0, (qtO T n (skip T n k + 1) []).2.2)])
      else ((qtO T n (skip T n k + 1) []).1, skip T n k, L))
    else (nI (skip T n k), skip T n k, L))
  else if fTy F f = 0 then
    (if isWd T n (skip T n k) [116, 114, 117, 101] then (-1, skip T n k + 4, L ++ [(nI p, nI f, 1, [])])
    else if isWd T n (skip T n k) [102, 97, 108, 115, 101] then (-1, skip T n k + 5, L ++ [(nI p, nI f, 0, [])])
    else (nI (skip T n k), skip T n k, L))
  else
    (if (nmF T n (skip T n k)).1 = -1 then
      (if fTy F f = 1 ∧ ¬ (nmF T n (skip T n k)).2.2 = (nmF T n (skip T n k)).2.2.toInt32.toInt64 then (nI (skip T n k), skip T n k, L)
      else (-1, (nmF T n (skip T n k)).2.1, L ++ [(nI p, nI f, (nmF T n (skip T n k)).2.2, [])]))
    else ((nmF T n (skip T n k)).1, skip T n k, L))
def pRow (p f : Nat) : Nat → Nat → List SNd → Int32 × Nat × List SNd
  | 0, k, L => (-3, k, L)
  | d + 1, k, L =>
    if (pVal T n F P k p f L).1 = -1 then
      (if skip T n (pVal T n F P k p f L).2.1 < n ∧ T (skip T n (pVal T n F P k p f L).2.1) = 93 then (-1, skip T n (pVal T n F P k p f L).2.1 + 1, (pVal T n F P k p f L).2.2)
      else if skip T n (pVal T n F P k p f L).2.1 < n ∧ T (skip T n (pVal T n F P k p f L).2.1) = 44 then pRow p f d (skip T n (pVal T n F P k p f L).2.1 + 1) (pVal T n F P k p f L).2.2
      else (nI (skip T n (pVal T n F P k p f L).2.1), skip T n (pVal T n F P k p f L).2.1, (pVal T n F P k p f L).2.2))
    else pVal T n F P k p f L
def pVals (k p f : Nat) (L : List SNd) : Int32 × Nat × List SNd :=
  if fKd F f = 2 then
    (if skip T n k < n ∧ T (skip T n k) = 91 then
      (if skip T n (skip T n k + 1) < n ∧ T (skip T n (skip T n k + 1)) = 93 then (-1, skip T n (skip T n k + 1) + 1, L) else pRow T n F P p f (n + 1) (skip T n k + 1) L)
    else (nI (skip T n k), skip T n k, L))
  else pVal T n F P k p f L
/-- } at s: does a required field lack? -/
def pEnd (g : Int32) (s fr : Nat) (L : List SNd) : Int32 × Nat × List SNd := if missF F g fr F.length = true then (nI s, s, L) else (-1, s + 1, L)
def pFld (g : Int32) (p : Nat) : Nat → Nat → Nat → Bool → List SNd → Int32 × Nat × List SNd
  | 0, k, _, _, L => (-3, k, L)
  | d + 1, k, fr, first, L =>
    if first = true ∧ skip T n k < n ∧ T (skip T n k) = 125 then pEnd F g (skip T n k) fr L
    else if wln T n (skip T n k) = 0 ∨ fdF F g (rowL T (skip T n k) (wln T n (skip T n k))) = -1 ∨ (fdF F g (rowL T (skip T n k) (wln T n (skip T n k)))).toNatClampNeg < fr ∨ missF F g fr (fdF F g (rowL T (skip T n k) (wln T n (skip T n k)))).toNatClampNeg = true then (nI (skip T n k), skip T n k, L)
    else if ¬ (skip T n (skip T n k + wln T n (skip T n k)) < n ∧ T (skip T n (skip T n k + wln T n (skip T n k))) = 58) then (nI (skip T n (skip T n k + wln T n (skip T n k))), skip T n (skip T n k + wln T n (skip T n k)), L)
    else
      let f := (fdF F g (rowL T (skip T n k) (wln T n (skip T n k)))).toNatClampNeg
      let r := pVals T n F P (skip T n (skip T n k + wln T n (skip T n k)) + 1) p f L
      if ¬ r.1 = -1 then r
      else if skip T n r.2.1 < n ∧ T (skip T n r.2.1) = 125 then pEnd F g (skip T n r.2.1) (f + 1) r.2.2
      else if skip T n r.2.1 < n ∧ T (skip T n r.2.1) = 44 then pFld g p d (skip T n r.2.1 + 1) (f + 1) false r.2.2
      else (nI (skip T n r.2.1), skip T n r.2.1, r.2.2)
end Gram
/-- a RECORD, or a group's value, from its { on -/
def pGrp (T : Nat → Int32) (n : Nat) (F : List SFd) : Nat → PGr
  | 0 => fun k _ _ L => (-3, k, L)
  | d + 1 => fun k g p L => if skip T n k < n ∧ T (skip T n k) = 123 then pFld T n F (pGrp T n F d) g p 200 (skip T n k + 1) 0 true L else (nI (skip T n k), skip T n k, L)
