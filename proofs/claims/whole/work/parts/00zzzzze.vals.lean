/-! values are read: what comes out -/
def txs (T : Nat → Nat) (q m : Nat) : List Int32 := (List.range m).map (fun i => nI (T (q + i)))
abbrev inI (v : Int64) : Prop := v = v.toInt32.toInt64
/-- as a LEAST or GREATEST one -/
def tld (T : Nat → Nat) (ty st p : Nat) : Rd PV :=
  if ty = 0 then (match fxd T 1 st p with | .error e => .error e | .ok (v, q) => if 1 < v then .error 7 else .ok ((lN v, []), q))
  else if ty = 3 then (match vrd T st p with | .error e => .error e | .ok (m, q) => if 255 < m then .error 7 else if st < q + m then .error 1 else .ok ((0, txs T q m), q + m))
  else (match vrd T st p with | .error e => .error e | .ok (z, q) => if ty = 1 ∧ ¬ inI (uz z) then .error 7 else .ok ((uz z, []), q))
def bl0 (T : Nat → Nat) (n st p : Nat) : Rd (List PV) := if st < p + (n + 7) / 8 then .error 1 else if ∃ j, j < 8 * ((n + 7) / 8) ∧ n ≤ j ∧ btN T p j = 1 then .error 5 else .ok ((List.range n).map (fun j => (lN (btN T p j), [])), p + (n + 7) / 8)
def bl1 (T : Nat → Nat) (n st p : Nat) : Rd (List PV) := match rns T n 1 st p with
  | .error e => .error e
  | .ok (L, q) => if q < st then .error 6 else .ok (L.map (fun v => (lN v, [])), q)
def wid (ty : Nat) : Nat := if ty = 1 then 4 else 8
def whV (ty v : Nat) : Int64 := if ty = 1 then (lN v).toInt32.toInt64 else lN v
def wplF (T : Nat → Nat) (ty st : Nat) : Nat → List PV → Nat → Rd (List PV)
  | 0, acc, p => .ok (acc, p)
  | d + 1, acc, p => match fxd T (wid ty) st p with
    | .error e => .error e
    | .ok (v, q) => wplF T ty st d (acc ++ [(whV ty v, [])]) q
def wh1 (T : Nat → Nat) (ty n st p : Nat) : Rd (List PV) := match lgs T n st p with
  | .error e => .error e
  | .ok (L, q) => if ty = 1 ∧ ∃ k, k < n ∧ ¬ inI (L.getD k 0) then .error 7 else .ok (L.map (fun v => (v, [])), q)
/-- values by their numbers in a DICTIONARY -/
def dtx (W : List PV) : List Nat → List PV → Except Nat (List PV)
  | [], acc => .ok acc
  | v :: N, acc => if W.length ≤ v then .error 7 else if 20000 < oF acc acc.length + (pvd W v).2.length then .error 7 else dtx W N (acc ++ [pvd W v])
def ptxF (T : Nat → Nat) (st : Nat) : Nat → List PV → Nat → Rd (List PV)
  | 0, acc, p => .ok (acc, p)
  | d + 1, acc, p => match vrd T st p with
    | .error e => .error e
    | .ok (m, q) => if 255 < m then .error 7 else if st < q + m then .error 1 else if 20000 < oF acc acc.length + m then .error 7 else ptxF T st d (acc ++ [(0, txs T q m)]) (q + m)
def dcR (T : Nat → Nat) (ty n st p : Nat) : Rd (List PV × List PV) := match vrd T st p with
  | .error e => .error e
  | .ok (d, q) => if n < d then .error 4 else match (if ty = 3 then ptxF T st d [] q else wplF T ty st d [] q) with
    | .error e => .error e
    | .ok (W, q1) => if st ≤ q1 then .error 1 else if 32 < T q1 then .error 5 else match rns T n (T q1) st (q1 + 1) with
      | .error e => .error e
      | .ok (N, q2) => if q2 < st then .error 6 else match dtx W N [] with
        | .error e => .error e
        | .ok P => .ok ((P, W), q2)
def ltxF (T : Nat → Nat) (st : Nat) (L : List Int64) : Nat → List PV → Nat → Rd (List PV)
  | 0, acc, p => .ok (acc, p)
  | d + 1, acc, p => if st < p + uL (L.getD acc.length 0) then .error 1 else if 20000 < oF acc acc.length + uL (L.getD acc.length 0) then .error 7 else ltxF T st L d (acc ++ [(0, txs T p (uL (L.getD acc.length 0)))]) (p + uL (L.getD acc.length 0))
def tx1 (T : Nat → Nat) (n st p : Nat) : Rd (List PV) := match cde T n st p with
  | .error e => .error e
  | .ok (L, q) => if ∃ k, k < n ∧ 255 < uL (L.getD k 0) then .error 7 else ltxF T st L n [] q
def ftxF (T : Nat → Nat) (st : Nat) (C M : List Int64) : Nat → List PV → Nat → Rd (List PV)
  | 0, acc, p => .ok (acc, p)
  | d + 1, acc, p => if (pvd acc (acc.length - 1)).2.length < uL (C.getD acc.length 0) ∨ 255 < uL (C.getD acc.length 0) + uL (M.getD acc.length 0) then .error 7 else if st < p + uL (M.getD acc.length 0) then .error 1 else if 20000 < oF acc acc.length + uL (C.getD acc.length 0) + uL (M.getD acc.length 0) then .error 7 else ftxF T st C M d (acc ++ [(0, (pvd acc (acc.length - 1)).2.take (uL (C.getD acc.length 0)) ++ txs T p (uL (M.getD acc.length 0)))]) (p + uL (M.getD acc.length 0))
def tx2 (T : Nat → Nat) (n st p : Nat) : Rd (List PV) := match cde T n st p with
  | .error e => .error e
  | .ok (C, q) => match cde T n st q with
    | .error e => .error e
    | .ok (M, q1) => ftxF T st C M n [] q1
def noW (r : Rd (List PV)) : Rd (List PV × List PV) := match r with
  | .error e => .error e
  | .ok (P, q) => .ok ((P, []), q)
/-- the values of a page; the words of its DICTIONARY -/
def vlR (T : Nat → Nat) (ty how n st p : Nat) : Rd (List PV × List PV) :=
  if ty = 0 then noW (if how = 1 then bl1 T n st p else bl0 T n st p)
  else if ty = 3 then (if how = 0 then noW (ptxF T st n [] p) else if how = 1 then noW (tx1 T n st p) else if how = 2 then noW (tx2 T n st p) else dcR T 3 n st p)
  else (if how = 0 then noW (wplF T ty st n [] p) else if how = 1 then noW (wh1 T ty n st p) else dcR T ty n st p)
/-- levels -/
def lvR (T : Nat → Nat) (most n st p : Nat) : Rd (List Nat) := if most = 0 then .ok (List.replicate n 0, p) else match vrd T st p with
  | .error e => .error e
  | .ok (z, q) => if st < q + z then .error 1 else match rns T n (bl most) (q + z) q with
    | .error e => .error e
    | .ok (L, q2) => if q2 < q + z then .error 6 else if ∃ v, v ∈ L ∧ most < v then .error 9 else .ok (L, q2)
theorem txs_len {T : Nat → Nat} {q m : Nat} : (txs T q m).length = m := by unfold txs; rw [List.length_map, List.length_range]
theorem txs_at {T : Nat → Nat} {q m i : Nat} (h : i < m) : (txs T q m).getD i 0 = nI (T (q + i)) := by
  unfold txs
  rw [List.getD_eq_getElem?_getD, List.getElem?_map, List.getElem?_range h]
  rfl
theorem txs_ok {T : Nat → Nat} {q m : Nat} (hT : ∀ i, T i < 256) (hm : m ≤ 255) : okT (txs T q m) := by
  refine ⟨by rw [txs_len]; exact hm, fun j hj => ?_⟩
  rw [txs_len] at hj
  rw [txs_at hj]
  have := hT (q + j)
  constructor <;> (first | omega | (simp (disch := omega) only [Int32.le_iff_toInt_le, Int32.lt_iff_toInt_lt, z_eq, z_in, nI_toInt, z_cl, z_m1, z_sg, z_255, Int32.reduceToInt] <;> omega) | (simp only [Int32.le_iff_toInt_le, Int32.lt_iff_toInt_lt, z_eq, z_in, z_add, z_sub, z_mul, z_neg, z_nI, z_cl, z_sg, z_255, z_lit, Int32.reduceToInt] <;> omega))
