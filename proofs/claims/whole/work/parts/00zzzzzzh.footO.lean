/-! a file's footer is read: what comes out; frames -/
def smN : List Nat → Nat
  | [] => 0
  | a :: l => a + smN l
theorem smN_add {l : List Nat} {a : Nat} : smN (l ++ [a]) = smN l + a := by
  induction l with
  | nil => show a + 0 = 0 + a; omega
  | cons b l ih => show b + smN (l ++ [a]) = b + smN l + a; omega
def t0 : ChT := (0, 0, 0, 0, (0, []), (0, []))
def bsm (K : List ChT) : Nat := smN (K.map (fun t => clp t.1))
theorem bsm_add {K : List ChT} {t : ChT} : bsm (K ++ [t]) = bsm K + clp t.1 := by
  unfold bsm
  rw [List.map_append]
  exact smN_add
/-- what is told of a group's chunks -/
def tdsO (T : Nat → Nat) (F : List SFd) (st : Nat) : Nat → Nat → List ChT → Nat → Rd (List ChT)
  | 0, _, K, p => .ok (K, p)
  | d + 1, c, K, p => match tdR T (tyC F c) st p with
    | .error e => .error e
    | .ok (t, q) => tdsO T F st d (c + 1) (K ++ [t]) q
def gpsO (T : Nat → Nat) (F : List SFd) (st : Nat) : Nat → List Nat → List ChT → Nat → Rd (List Nat × List ChT)
  | 0, G, K, p => .ok ((G, K), p)
  | d + 1, G, K, p => match nm4 T 2000 16 st p with
    | .error e => .error e
    | .ok (r, q) => if r = 0 then .error 16 else match tdsO T F st (ncol F) 0 K q with
      | .error e => .error e
      | .ok (K', q1) => gpsO T F st d (G ++ [r]) K' q1
abbrev frmA (T : Nat → Nat) (k : Nat) : Prop := T k = 83 ∧ T (k + 1) = 84 ∧ T (k + 2) = 82 ∧ T (k + 3) = 66
/-- what a footer tells: the schema, how many rows, the rows of each group, what is told of each chunk -/
abbrev FtT : Type := List SFd × Nat × List Nat × List ChT
def ftO2 (T : Nat → Nat) (n b : Nat) : Except Nat FtT := match scO T (n - 12) b with
  | .error e => .error e
  | .ok (F, q) => match nm4 T 2000 16 (n - 12) q with
    | .error e => .error e
    | .ok (rows, q1) => match nm4 T 500 16 (n - 12) q1 with
      | .error e => .error e
      | .ok (gs, q2) => match gpsO T F (n - 12) gs [] [] q2 with
        | .error e => .error e
        | .ok ((G, K), q3) => if smN G ≠ rows then .error 16 else if q3 < n - 12 then .error 6 else if 4 + bsm K ≠ b then .error 17 else .ok (F, rows, G, K)
def ftO (T : Nat → Nat) (n : Nat) : Except Nat FtT :=
  if n < 16 ∨ ¬ frmA T 0 ∨ ¬ frmA T (n - 4) then .error 13
  else if n - 16 < fxV T (n - 12) 4 then .error 13
  else if crcS (fun i => nI (T i)) (n - 12 - fxV T (n - 12) 4) (n - 12) ≠ (lN (fxV T (n - 8) 4)).toInt32 then .error 14
  else ftO2 T n (n - 12 - fxV T (n - 12) 4)
/-- nothing else has changed: of the schemas, slot 0 -/
def Fq (I A L : Nat → Prop) (x y : St) : Prop := (∀ o k, ¬ (o = 0 ∧ I k) → y.1 o k = x.1 o k) ∧ y.2.1 = x.2.1 ∧ y.2.2.1 = x.2.2.1 ∧ (∀ a i, ¬ A a → (3 ≤ a → a ≤ 11 → i < s1lo a) → y.2.2.2.1 a i = x.2.2.2.1 a i) ∧ (∀ a, ¬ L a → y.2.2.2.2.1 a = x.2.2.2.2.1 a) ∧ y.2.2.2.2.2 = x.2.2.2.2.2
section
variable {x y z : St} {I A L I' A' L' : Nat → Prop} {T : Nat → Nat} {n : Nat}
theorem Fq.refl : Fq I A L x x := ⟨fun _ _ _ => rfl, rfl, rfl, fun _ _ _ _ => rfl, fun _ _ => rfl, rfl⟩
theorem Fq.trans (h : Fq I A L x y) (k : Fq I A L y z) : Fq I A L x z := ⟨fun o i c => (k.1 o i c).trans (h.1 o i c), k.2.1.trans h.2.1, k.2.2.1.trans h.2.2.1, fun a i c d => (k.2.2.2.1 a i c d).trans (h.2.2.2.1 a i c d), fun a c => (k.2.2.2.2.1 a c).trans (h.2.2.2.2.1 a c), k.2.2.2.2.2.trans h.2.2.2.2.2⟩
theorem Fq.mono (h : Fq I A L x y) (h1 : ∀ k, I k → I' k) (h2 : ∀ a, A a → A' a) (h3 : ∀ a, L a → L' a) : Fq I' A' L' x y := ⟨fun o k c => h.1 o k (fun z => c ⟨z.1, h1 k z.2⟩), h.2.1, h.2.2.1, fun a i c d => h.2.2.2.1 a i (fun z => c (h2 a z)) d, fun a c => h.2.2.2.2.1 a (fun z => c (h3 a z)), h.2.2.2.2.2⟩
theorem Fg.q {J : Nat → Nat → Prop} (h : Fg J no2 no2 A L x y) (hJ : ∀ o k, J o k → o = 0 ∧ I k) : Fq I A L x y := by
  obtain ⟨f1, f2, f3, f4, f5, f6⟩ := h
  exact ⟨fun o k c => f1 o k (fun z => c (hJ o k z)), funext fun o => funext fun k => f2 o k id, funext fun o => funext fun k => f3 o k id, fun a i c _ => congrFun (f4 a c) i, f5, f6⟩
theorem FrSp.q (h : FrSp x y) (h67 : I 67) (h69 : I 69) : Fq I A L x y := by
  obtain ⟨f1, f2, f3, f4, f5⟩ := h
  exact ⟨fun o k c => f1 o k (fun z => c ⟨z.1, by rcases z.2 with e | e <;> rw [e]; exact h67; exact h69⟩), f3, f4, fun a i _ d => f2 a i d, fun a _ => congrFun (congrArg Prod.fst f5) a, congrArg Prod.snd f5⟩
theorem Fq.fi (h : Fq I A L x y) (hA : ¬ A 41) (hF : FiM x T n) : FiM y T n := by
  refine hF.cg ?_ (fun o => by show y.2.2.2.2.2 o = x.2.2.2.2.2 o; rw [h.2.2.2.2.2])
  funext i
  exact h.2.2.2.1 41 i hA (fun _ z => absurd z (by decide))
theorem Fq.i {k : Nat} {v : Int32} (h : I k) : Fq I A L x (setI x 0 k v) := Fg.q (J := fun o j => o = 0 ∧ I j) (Fg.i ⟨rfl, h⟩) (fun _ _ z => z)
theorem Fq.a {r : Nat} {i v : Int32} (h : A r) : Fq I A L x (setA x r i v) := Fg.q (J := fun o j => o = 0 ∧ I j) (Fg.a h) (fun _ _ z => z)
/-- a row that is none of the schemas' -/
theorem Fq.row {a : Nat} (h : Fq I A L x y) (ha : ¬ A a) (h3 : a < 3 ∨ 11 < a) : fA y a = fA x a := by
  funext i
  exact h.2.2.2.1 a i ha (fun h1 h2 => by omega)
end
abbrev FrFt (x y : St) : Prop := Fq (fun k => k = 38 ∨ k = 67 ∨ k = 68 ∨ k = 69 ∨ k = 84 ∨ k = 85 ∨ k = 93 ∨ k = 94) (fun a => 48 ≤ a ∧ a ≤ 51 ∨ a = 53 ∨ 55 ≤ a ∧ a ≤ 57 ∨ 61 ≤ a ∧ a ≤ 64) (fun a => a = 47 ∨ a = 54) x y
abbrev FrOn (x y : St) : Prop := Fq (fun k => k = 0 ∨ 38 ≤ k ∧ k ≤ 43 ∨ k = 58 ∨ k = 59 ∨ k = 67 ∨ k = 68 ∨ k = 69 ∨ k = 71 ∨ 82 ≤ k ∧ k ≤ 88 ∨ k = 93 ∨ k = 94 ∨ k = 120 ∨ k = 121) (fun a => a = 28 ∨ a = 29 ∨ a = 34 ∨ a = 35 ∨ a = 37 ∨ a = 38 ∨ a = 44 ∨ a = 45 ∨ a = 46 ∨ 48 ≤ a ∧ a ≤ 53 ∨ 55 ≤ a ∧ a ≤ 74) (fun a => a = 31 ∨ a = 32 ∨ a = 43 ∨ a = 47 ∨ a = 54) x y
section
variable {x y : St} {F : List SFd} {T : Nat → Nat} {n : Nat}
theorem FrFt.on (f : FrFt x y) : FrOn x y := f.mono (fun _ z => by omega) (fun _ z => by omega) (fun _ z => by omega)
theorem FrTd.ft (f : FrTd x y) : FrFt x y := Fg.q (f.mono (fun _ _ z => z) (fun _ _ z => z) (fun _ _ z => z) (fun a z => show 48 ≤ a ∧ a ≤ 51 ∨ a = 53 ∨ 55 ≤ a ∧ a ≤ 57 ∨ 61 ≤ a ∧ a ≤ 64 by omega) (fun a z => z)) (fun _ _ z => ⟨z.1, by omega⟩)
theorem FrRd.ft (f : FrRd x y) : FrFt x y := f.td.ft
theorem FrKo.on (f : FrKo x y) : FrOn x y := Fg.q (f.mono (fun _ _ z => z) (fun _ _ z => z) (fun _ _ z => z) (fun a z => show a = 28 ∨ a = 29 ∨ a = 34 ∨ a = 35 ∨ a = 37 ∨ a = 38 ∨ a = 44 ∨ a = 45 ∨ a = 46 ∨ 48 ≤ a ∧ a ≤ 53 ∨ 55 ≤ a ∧ a ≤ 74 by omega) (fun a z => z)) (fun _ _ z => ⟨z.1, by omega⟩)
theorem FrFt.fi (f : FrFt x y) (h : FiM x T n) : FiM y T n := Fq.fi f (by decide) h
theorem FrOn.fi (f : FrOn x y) (h : FiM x T n) : FiM y T n := Fq.fi f (by decide) h
theorem tdsO_ok {st : Nat} (hT : ∀ i, T i < 256) : ∀ d c K p K' q, tdsO T F st d c K p = .ok (K', q) → p ≤ st → p + 4 * d ≤ q ∧ q ≤ st ∧ K'.length = K.length + d := by
  intro d
  induction d with
  | zero => intro c K p K' q h hp; simp only [tdsO, Except.ok.injEq, Prod.mk.injEq] at h; rw [← h.1]; omega
  | succ d ih =>
    intro c K p K' q h hp
    simp only [tdsO] at h
    split at h
    · cases h
    rename_i t q1 e1
    have t1 := tdR_ok hT e1
    have := ih _ _ _ _ _ h (by omega)
    rw [List.length_append, show [t].length = 1 from rfl] at this
    omega
theorem s_isFrame {post : Int32 → St → Prop} {k : Nat} (hF : FiM x T n) (hk : k + 4 ≤ n) (p1 : frmA T k → post 1 x) (p0 : ¬ frmA T k → post 0 x) : wp_Mod_isFrame post (nI k) x := by
  have hn := hF.2.1
  have hT := hF.2.2.1
  have n41 : fN x 41 = 40000 := hF.1 41
  have r : ∀ j, j < 4 → vp_in (nI (k + j)) (fN x 41) ∧ rA x 41 (nI (k + j)) = nI (T (k + j)) := fun j hj => ⟨vp_in_nI (by omega) (by omega), by rw [rA_nI (by omega)]; exact hF.2.2.2 _ (by omega)⟩
  have eqv : ∀ j (b : Nat), b < 256 → (nI (T (k + j)) = nI b ↔ T (k + j) = b) := fun j b hb => by
    have := hT (k + j)
    exact ⟨fun z => nI_inj (by omega) (by omega) z, fun z => by rw [z]⟩
  have r0 := r 0 (by decide)
  have r1 := r 1 (by decide)
  have r2 := r 2 (by decide)
  have r3 := r 3 (by decide)
  rw [Nat.add_zero] at r0
  unfold wp_Mod_isFrame j_Mod_isFrame_54
  rw [show (1 : Int32) = nI 1 from rfl, show (2 : Int32) = nI 2 from rfl, show (3 : Int32) = nI 3 from rfl, nI_add, nI_add, nI_add, r0.2, r1.2, r2.2, r3.2, show (83 : Int32) = nI 83 from rfl, show (84 : Int32) = nI 84 from rfl, show (82 : Int32) = nI 82 from rfl, show (66 : Int32) = nI 66 from rfl]
  have e0 := eqv 0 83 (by decide)
  rw [Nat.add_zero] at e0
  rw [e0, eqv 1 84 (by decide), eqv 2 82 (by decide), eqv 3 66 (by decide)]
  refine ⟨r0.1, fun z => p0 (fun w => z w.1), fun z0 => ⟨r1.1, fun z => p0 (fun w => z w.2.1), fun z1 => ⟨r2.1, fun z => p0 (fun w => z w.2.2.1), fun z2 => ⟨r3.1, fun z => p0 (fun w => z w.2.2.2), fun z3 => p1 ⟨z0, z1, z2, z3⟩⟩⟩⟩⟩
end
