/-! QUERIES: what a text tells -/
/-- an item: form, field or -1, place -/
abbrev QIt : Type := Int32 × Int32 × Nat
/-- a step: kind, field, operator, other, how many -/
abbrev QSt : Type := Int32 × Int32 × Int32 × Int32 × Int32
/-- a literal: type, number, bytes -/
abbrev QLt : Type := Int32 × Int64 × List Int32
/-- items, paths behind by, steps, literals -/
abbrev Qy : Type := List QIt × List Nat × List QSt × List QLt
/-- a fault's place or -1, the place, what was read -/
abbrev QR : Type := Int32 × Nat × Qy
def ltB (L : List QLt) : List Int32 := (L.map (fun l => l.2.2)).flatten
theorem ltB_snoc {L : List QLt} {l : QLt} : ltB (L ++ [l]) = ltB L ++ l.2.2 := by
  unfold ltB
  rw [List.map_append, List.flatten_append]
  show _ ++ (l.2.2 ++ []) = _
  rw [List.append_nil]
def ownW : List (List Nat) := [[115, 101, 108, 101, 99, 116], [119, 104, 101, 114, 101], [103, 114, 111, 117, 112], [98, 121], [97, 110, 100], [111, 114], [110, 111, 116], [105, 115], [110, 117, 108, 108], [105, 110], [116, 114, 117, 101], [102, 97, 108, 115, 101], [99, 111, 117, 110, 116], [115, 117, 109], [109, 105, 110], [109, 97, 120]]
/-- is a field one of these? -/
def byB (B : List Nat) (v : Int32) : Bool := B.any (fun g => decide (nI g = v))
section Gram
variable (T : Nat → Int32) (n : Nat) (F : List SFd)
def ownB (k : Nat) : Bool := ownW.any (fun b => decide (isWd T n k b))
/-- a PATH from its first letter on, behind field g: fault, place, field or -1 -/
def qPth : Nat → Nat → Int32 → Bool → Int32 × Nat × Int32
  | 0, k, _, _ => (-3, k, -1)
  | d + 1, k, g, b =>
    if wln T n k = 0 ∨ ownB T n k = true then (nI k, k, -1)
    else
      if k + wln T n k < n ∧ T (k + wln T n k) = 46 then
        qPth d (k + wln T n k + 1) (if b = true then -1 else fdF F g (rowL T k (wln T n k))) (b || decide (fdF F g (rowL T k (wln T n k)) = -1))
      else (-1, k + wln T n k, if b = true then -1 else fdF F g (rowL T k (wln T n k)))
/-- a PATH behind blanks -/
def qPa (k : Nat) : Int32 × Nat × Int32 := qPth T n F (n + 1) (skip T n k) (-1) false
/-- a PATH that is FLAT and no group: fault, place, field -/
def qCol (k : Nat) : Int32 × Nat × Nat :=
  if ¬ (qPa T n F k).1 = -1 then ((qPa T n F k).1, (qPa T n F k).2.1, 0)
  else if (qPa T n F k).2.2 = -1 ∨ fTy F (qPa T n F k).2.2.toNatClampNeg = 4 ∨ ¬ rF F (qPa T n F k).2.2.toNatClampNeg = 0 then (nI (skip T n k), (qPa T n F k).2.1, 0)
  else (-1, (qPa T n F k).2.1, (qPa T n F k).2.2.toNatClampNeg)
/-- a sign that must stand -/
def qSgn (c : Int32) (r : QR) : QR :=
  if ¬ r.1 = -1 then r
  else if skip T n r.2.1 < n ∧ T (skip T n r.2.1) = c then (-1, skip T n r.2.1 + 1, r.2.2)
  else (nI (skip T n r.2.1), skip T n r.2.1, r.2.2)
/-- a word that must stand -/
def qWrd (b : List Nat) (r : QR) : QR :=
  if ¬ r.1 = -1 then r
  else if isWd T n (skip T n r.2.1) b then (-1, skip T n r.2.1 + b.length, r.2.2)
  else (nI (skip T n r.2.1), skip T n r.2.1, r.2.2)
/-- a fault, if there is none yet -/
def qEr (e : Nat) (r : QR) : QR := if r.1 = -1 then (nI e, r.2.1, r.2.2) else r
/-- then -/
def qBd (r : QR) (f : Nat → Qy → QR) : QR := if r.1 = -1 then f r.2.1 r.2.2 else r
/-- a literal is kept -/
def qPut (ty got : Int32) (v : Int64) (bs : List Int32) (b k : Nat) (Q : Qy) : QR :=
  if ¬ (got = ty ∨ got = 2 ∧ ty = 1) ∨ Q.2.2.2.length = 64 then (nI b, k, Q)
  else (-1, k, (Q.1, Q.2.1, Q.2.2.1, Q.2.2.2 ++ [(got, v, bs)]))
def qLit (ty : Int32) (k : Nat) (Q : Qy) : QR :=
  if isWd T n (skip T n k) [116, 114, 117, 101] then qPut ty 0 1 [] (skip T n k) (skip T n k + 4) Q
  else if isWd T n (skip T n k) [102, 97, 108, 115, 101] then qPut ty 0 0 [] (skip T n k) (skip T n k + 5) Q
  else if skip T n k < n ∧ T (skip T n k) = 39 then
    (if (qtO T n (skip T n k + 1) []).1 = -1 then qPut ty 3 0 (qtO T n (skip T n k + 1) []).2.2 (skip T n k) (qtO T n (skip T n k + 1) []).2.1 Q
    else ((qtO T n (skip T n k + 1) []).1, skip T n k, Q))
  else if (nmF T n (skip T n k)).1 = -1 then qPut ty 2 (nmF T n (skip T n k)).2.2 [] (skip T n k) (nmF T n (skip T n k)).2.1 Q
  else ((nmF T n (skip T n k)).1, skip T n k, Q)
/-- a step is kept -/
def qAdd (p : Nat) (s : QSt) (r : QR) : QR :=
  if ¬ r.1 = -1 then r
  else if r.2.2.2.2.1.length = 64 then (nI p, r.2.1, r.2.2)
  else (-1, r.2.1, (r.2.2.1, r.2.2.2.1, r.2.2.2.2.1 ++ [s], r.2.2.2.2.2))
/-- behind a literal of a list -/
def qLst (ty : Int32) : Nat → Nat → Qy → QR
  | 0, k, Q => (-3, k, Q)
  | d + 1, k, Q =>
    if skip T n k < n ∧ T (skip T n k) = 44 then qBd (qLit T n ty (skip T n k + 1) Q) (qLst ty d)
    else qSgn T n 41 (-1, skip T n k, Q)
/-- an operator: fault, place, number -/
def qOp (k : Nat) : Int32 × Nat × Nat :=
  if ¬ skip T n k < n then (nI (skip T n k), skip T n k, 0)
  else if T (skip T n k) = 61 then (-1, skip T n k + 1, 0)
  else if T (skip T n k) = 60 then
    (if skip T n k + 1 < n ∧ T (skip T n k + 1) = 62 then (-1, skip T n k + 2, 1)
    else if skip T n k + 1 < n ∧ T (skip T n k + 1) = 61 then (-1, skip T n k + 2, 3)
    else (-1, skip T n k + 1, 2))
  else if T (skip T n k) = 62 then
    (if skip T n k + 1 < n ∧ T (skip T n k + 1) = 61 then (-1, skip T n k + 2, 5) else (-1, skip T n k + 1, 4))
  else (nI (skip T n k), skip T n k, 0)
abbrev whl (t : Int32) : Prop := t = 1 ∨ t = 2
/-- behind is -/
def qIs (p f k : Nat) (Q : Qy) : QR :=
  if isWd T n (skip T n k) [110, 111, 116] then qAdd p (1, nI f, -1, -1, 0) (qWrd T n [110, 117, 108, 108] (-1, skip T n k + 3, Q))
  else qAdd p (0, nI f, -1, -1, 0) (qWrd T n [110, 117, 108, 108] (-1, skip T n k, Q))
/-- behind in -/
def qIn (p f k : Nat) (Q : Qy) : QR :=
  let r := qBd (qBd (qSgn T n 40 (-1, k, Q)) (qLit T n (fTy F f))) (qLst T n (fTy F f) 65)
  qAdd p (2, nI f, -1, nI Q.2.2.2.length, nI (r.2.2.2.2.2.length - Q.2.2.2.length)) r
/-- an operator and what is behind -/
def qCmp (p f k : Nat) (Q : Qy) : QR :=
  if ¬ (qOp T n k).1 = -1 then ((qOp T n k).1, (qOp T n k).2.1, Q)
  else if 0 < wln T n (skip T n (qOp T n k).2.1) ∧ ¬ isWd T n (skip T n (qOp T n k).2.1) [116, 114, 117, 101] ∧ ¬ isWd T n (skip T n (qOp T n k).2.1) [102, 97, 108, 115, 101] then
    (if ¬ (qCol T n F (skip T n (qOp T n k).2.1)).1 = -1 then ((qCol T n F (skip T n (qOp T n k).2.1)).1, (qCol T n F (skip T n (qOp T n k).2.1)).2.1, Q)
    else if ¬ (fTy F f = fTy F (qCol T n F (skip T n (qOp T n k).2.1)).2.2 ∨ whl (fTy F f) ∧ whl (fTy F (qCol T n F (skip T n (qOp T n k).2.1)).2.2)) then (nI (skip T n (qOp T n k).2.1), (qCol T n F (skip T n (qOp T n k).2.1)).2.1, Q)
    else qAdd p (4, nI f, nI (qOp T n k).2.2, nI (qCol T n F (skip T n (qOp T n k).2.1)).2.2, 0) (-1, (qCol T n F (skip T n (qOp T n k).2.1)).2.1, Q))
  else qAdd p (3, nI f, nI (qOp T n k).2.2, nI Q.2.2.2.length, 1) (qLit T n (fTy F f) (skip T n (qOp T n k).2.1) Q)
/-- a test without not or brackets -/
def qAsk (k : Nat) (Q : Qy) : QR :=
  if ¬ (qCol T n F k).1 = -1 then ((qCol T n F k).1, (qCol T n F k).2.1, Q)
  else if isWd T n (skip T n (qCol T n F k).2.1) [105, 115] then qIs T n (skip T n k) (qCol T n F k).2.2 (skip T n (qCol T n F k).2.1 + 2) Q
  else if isWd T n (skip T n (qCol T n F k).2.1) [105, 110] then qIn T n F (skip T n k) (qCol T n F k).2.2 (skip T n (qCol T n F k).2.1 + 2) Q
  else qCmp T n F (skip T n k) (qCol T n F k).2.2 (skip T n (qCol T n F k).2.1) Q
def qAt (w : Int32) (p : Option Nat) (r : QR) : QR := match p with
  | none => r
  | some p => qAdd p (w, -1, -1, -1, 0) r
/-- a condition of tests P: an or, an and that wait for what comes -/
def qCnd (P : Nat → Qy → QR) : Nat → Nat → Option Nat → Option Nat → Qy → QR
  | 0, k, _, _, Q => (-3, k, Q)
  | d + 1, k, oa, aa, Q =>
    qBd (qAt 6 aa (P k Q)) (fun k Q =>
      if isWd T n (skip T n k) [97, 110, 100] then qCnd P d (skip T n k + 3) oa (some (skip T n k)) Q
      else qBd (qAt 7 oa (-1, skip T n k, Q)) (fun k Q =>
        if isWd T n (skip T n k) [111, 114] then qCnd P d (skip T n k + 2) (some (skip T n k)) none Q
        else (-1, skip T n k, Q)))
/-- a test, m may still open -/
def qTst : Nat → Nat → Qy → QR
  | 0, k, Q => if isWd T n (skip T n k) [110, 111, 116] ∨ skip T n k < n ∧ T (skip T n k) = 40 then (nI (skip T n k), k, Q) else qAsk T n F k Q
  | m + 1, k, Q =>
    if isWd T n (skip T n k) [110, 111, 116] then qAdd (skip T n k) (5, -1, -1, -1, 0) (qTst m (skip T n k + 3) Q)
    else if skip T n k < n ∧ T (skip T n k) = 40 then qSgn T n 41 (qCnd T n (qTst m) (n + 1) (skip T n k + 1) none none Q)
    else qAsk T n F k Q
/-- an item's form -/
def qFm (k : Nat) : Nat × Int32 :=
  if isWd T n (skip T n k) [99, 111, 117, 110, 116] then (skip T n (skip T n k + 5), 1)
  else if isWd T n (skip T n k) [115, 117, 109] then (skip T n (skip T n k + 3), 3)
  else if isWd T n (skip T n k) [109, 105, 110] then (skip T n (skip T n k + 3), 4)
  else if isWd T n (skip T n k) [109, 97, 120] then (skip T n (skip T n k + 3), 5)
  else (skip T n k, 0)
def qIt (p : Nat) (w f : Int32) (r : QR) : QR := if r.1 = -1 then (-1, r.2.1, (r.2.2.1 ++ [(w, f, p)], r.2.2.2)) else r
/-- an item in brackets -/
def qAgg (p : Nat) (w : Int32) (k : Nat) (Q : Qy) : QR :=
  qBd (qSgn T n 40 (-1, k, Q)) (fun k Q =>
    if ¬ (qCol T n F k).1 = -1 then ((qCol T n F k).1, (qCol T n F k).2.1, Q)
    else if w = 3 ∧ ¬ whl (fTy F (qCol T n F k).2.2) then (nI (skip T n k), (qCol T n F k).2.1, Q)
    else qIt p w (nI (qCol T n F k).2.2) (qSgn T n 41 (-1, (qCol T n F k).2.1, Q)))
def qItm (k : Nat) (Q : Qy) : QR :=
  if Q.1.length = 16 then (nI (skip T n k), skip T n k, Q)
  else if (qFm T n k).2 = 0 then
    (if ¬ (qPa T n F k).1 = -1 then ((qPa T n F k).1, (qPa T n F k).2.1, Q)
    else if (qPa T n F k).2.2 = -1 then (nI (skip T n k), (qPa T n F k).2.1, Q)
    else qIt (skip T n k) 0 (qPa T n F k).2.2 (-1, (qPa T n F k).2.1, Q))
  else if (qFm T n k).2 = 1 ∧ ¬ ((qFm T n k).1 < n ∧ T (qFm T n k).1 = 40) then qIt (skip T n k) 1 (-1) (-1, (qFm T n k).1, Q)
  else qAgg T n F (skip T n k) (if (qFm T n k).2 = 1 then 2 else (qFm T n k).2) (qFm T n k).1 Q
def qIts : Nat → Nat → Qy → QR
  | 0, k, Q => (-3, k, Q)
  | d + 1, k, Q => qBd (qItm T n F k Q) (fun k Q => if skip T n k < n ∧ T (skip T n k) = 44 then qIts d (skip T n k + 1) Q else (-1, skip T n k, Q))
def qBy (k : Nat) (Q : Qy) : QR :=
  if Q.2.1.length = 8 then (nI (skip T n k), skip T n k, Q)
  else if ¬ (qCol T n F k).1 = -1 then ((qCol T n F k).1, (qCol T n F k).2.1, Q)
  else if byB Q.2.1 (nI (qCol T n F k).2.2) = true then (nI (skip T n k), (qCol T n F k).2.1, Q)
  else (-1, (qCol T n F k).2.1, (Q.1, Q.2.1 ++ [(qCol T n F k).2.2], Q.2.2))
def qBys : Nat → Nat → Qy → QR
  | 0, k, Q => (-3, k, Q)
  | d + 1, k, Q => qBd (qBy T n F k Q) (fun k Q => if skip T n k < n ∧ T (skip T n k) = 44 then qBys d (skip T n k + 1) Q else (-1, skip T n k, Q))
end Gram
/-- does it collect? -/
def cll (Q : Qy) : Bool := decide (0 < Q.2.1.length) || Q.1.any (fun i => decide (0 < i.1))
/-- the first item that isn't behind by: its place -/
def qCk (B : List Nat) : List QIt → Int32
  | [] => -1
  | i :: L => if i.1 = 0 ∧ byB B i.2.1 = false then nI i.2.2 else qCk B L
/-- a QUERY -/
def qry (T : Nat → Int32) (n : Nat) (F : List SFd) : QR :=
  qBd (qWrd T n [115, 101, 108, 101, 99, 116] (-1, 0, ([], [], [], []))) (fun k Q =>
  qBd (qIts T n F 17 k Q) (fun k Q =>
  qBd (if isWd T n (skip T n k) [119, 104, 101, 114, 101] then qCnd T n (qTst T n F 32) (n + 1) (skip T n k + 5) none none Q else (-1, skip T n k, Q)) (fun k Q =>
  qBd (if isWd T n (skip T n k) [103, 114, 111, 117, 112] then qBd (qWrd T n [98, 121] (-1, skip T n k + 5, Q)) (qBys T n F 9) else (-1, skip T n k, Q)) (fun k Q =>
    if skip T n k < n then (nI (skip T n k), k, Q)
    else if cll Q = true ∧ ¬ qCk Q.2.1 Q.1 = -1 then (qCk Q.2.1 Q.1, k, Q)
    else (-1, skip T n k, Q)))))
