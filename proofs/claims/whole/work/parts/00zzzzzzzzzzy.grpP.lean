/-! found rows in groups -/
abbrev GrT : Type := Int32 × List Nat
/-- values of a column in rows -/
def vlG (F : List SFd) (G : List Nat) (CK : List (List PgW)) (L : List Nat) (f : Int32) : List PV := L.filterMap (fun r => celR F G CK r (cOf F f))
def itV (F : List SFd) (G : List Nat) (CK : List (List PgW)) (it : QIt) (L : List Nat) : List PV := if it.1 < 2 then [] else vlG F G CK L it.2.1
def sumL (L : List PV) : Int64 := L.foldl (fun a v => a + v.1) 0
/-- the least or the greatest, the first of its like -/
def bst1 (ty : Nat) (mn : Bool) (b : Option PV) (v : PV) : Option PV := match b with
  | none => some v
  | some w => if mn = true then (if cmpV ty v w < 0 then some v else some w) else (if 0 < cmpV ty v w then some v else some w)
def bst (ty : Nat) (mn : Bool) (L : List PV) : Option PV := L.foldl (bst1 ty mn) none
def smO (ty : Nat) : Option PV → Option PV → Bool
  | none, none => true
  | some p, some q => decide (cmpV ty p q = 0)
  | none, some _ => false
  | some _, none => false
/-- two rows of one group -/
def smB (F : List SFd) (G : List Nat) (CK : List (List PgW)) (B : List Nat) (a b : Nat) : Bool := B.all (fun f => smO (tOf F (nI f)) (celR F G CK a (ncol (F.take f))) (celR F G CK b (ncol (F.take f))))
/-- a row is put to its group, perhaps a new one -/
def putG (same : Nat → Nat → Bool) (r : Nat) : List GrT → List GrT
  | [] => [(nI r, [r])]
  | g :: R => if same (fOf g.1) r = true then (g.1, g.2 ++ [r]) :: R else g :: putG same r R
def grpG (same : Nat → Nat → Bool) : List Nat → List GrT → Option (List GrT)
  | [], A => some A
  | r :: L, A => if 500 < (putG same r A).length then none else grpG same L (putG same r A)
/-- the groups, none if there are too many -/
def grpA (F : List SFd) (G : List Nat) (CK : List (List PgW)) (Q : Qy) : Option (List GrT) := if Q.2.1 = [] then some [(-1, fndR F G CK Q)] else grpG (smB F G CK Q.2.1) (fndR F G CK Q) []
theorem putG_at {same : Nat → Nat → Bool} {r : Nat} : ∀ {A : List GrT} {g : Nat}, g < A.length → (∀ k, k < g → ¬ same (fOf (A.getD k (0, [])).1) r = true) → same (fOf (A.getD g (0, [])).1) r = true → putG same r A = A.set g ((A.getD g (0, [])).1, (A.getD g (0, [])).2 ++ [r])
  | [], _, h, _, _ => absurd h (Nat.not_lt_zero _)
  | a :: A, 0, _, _, h2 => by
    show (if same (fOf a.1) r = true then _ else _) = _
    have h2 : same (fOf a.1) r = true := h2
    rw [if_pos h2]
    rfl
  | a :: A, g + 1, h, h1, h2 => by
    show (if same (fOf a.1) r = true then _ else _) = _
    have h0 : ¬ same (fOf a.1) r = true := h1 0 (Nat.zero_lt_succ _)
    rw [if_neg h0, putG_at (A := A) (Nat.lt_of_succ_lt_succ h) (fun k hk => h1 (k + 1) (Nat.succ_lt_succ hk)) h2]
    rfl
theorem putG_new {same : Nat → Nat → Bool} {r : Nat} : ∀ {A : List GrT}, (∀ k, k < A.length → ¬ same (fOf (A.getD k (0, [])).1) r = true) → putG same r A = A ++ [(nI r, [r])]
  | [], _ => rfl
  | a :: A, h => by
    show (if same (fOf a.1) r = true then _ else _) = _
    have h0 : ¬ same (fOf a.1) r = true := h 0 (Nat.zero_lt_succ _)
    rw [if_neg h0, putG_new (A := A) (fun k hk => h (k + 1) (Nat.succ_lt_succ hk))]
    rfl
theorem vlG_add {F : List SFd} {G : List Nat} {CK : List (List PgW)} {L : List Nat} {f : Int32} {r : Nat} : vlG F G CK (L ++ [r]) f = vlG F G CK L f ++ (match celR F G CK r (cOf F f) with | none => [] | some v => [v]) := by
  unfold vlG
  rw [List.filterMap_append]
  congr 1
  show List.filterMap _ [r] = _
  rw [List.filterMap_cons]
  split <;> (rename_i e; rw [e]; rfl)
theorem sumL_add {L : List PV} {v : PV} : sumL (L ++ [v]) = sumL L + v.1 := by
  unfold sumL
  rw [List.foldl_append]
  rfl
theorem bst_add {ty : Nat} {mn : Bool} {L : List PV} {v : PV} : bst ty mn (L ++ [v]) = bst1 ty mn (bst ty mn L) v := by
  unfold bst
  rw [List.foldl_append]
  rfl
