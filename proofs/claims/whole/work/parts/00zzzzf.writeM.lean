/-! the file of the model -/
def ckF (F : List SFd) (RS : List (List SEn)) (most g wh : Nat) : Option (List Nat × Nat) := chF RS (tyC F (wh % ncol F)) (rF F (lfC F (wh % ncol F))) (mdC F (wh % ncol F)) (wh % ncol F) most (min RS.length (wh / ncol F * g + g)) (min RS.length (wh / ncol F * g + g) - wh / ncol F * g) (wh / ncol F * g)
def blF (F : List SFd) (RS : List (List SEn)) (most g wh : Nat) : Nat := match ckF F RS most g wh with | none => 0 | some z => z.1.length
def pgF (F : List SFd) (RS : List (List SEn)) (most g wh : Nat) : Nat := match ckF F RS most g wh with | none => 0 | some z => z.2
def allF (f : Nat → Option (List Nat × Nat)) : Nat → Option (List Nat)
  | 0 => some []
  | n + 1 => match allF f n with
    | none => none
    | some W => match f n with
      | none => none
      | some z => some (W ++ z.1)
def nGr (RS : List (List SEn)) (g : Nat) : Nat := (RS.length + g - 1) / g
def endB (D : List Nat) : List Nat := D ++ (fixB D.length 4 ++ (ckB D ++ magB))
def ftF (F : List SFd) (RS : List (List SEn)) (most g : Nat) : List Nat := footB F RS (blF F RS most g) (pgF F RS most g) g
def filB (F : List SFd) (RS : List (List SEn)) (most g : Nat) : Option (List Nat) := match allF (ckF F RS most g) (nGr RS g * ncol F) with
  | none => none
  | some W => if (magB ++ W).length + (ftF F RS most g).length + 12 ≤ 40000 then some (magB ++ (W ++ endB (ftF F RS most g))) else none
theorem allF_none {f : Nat → Option (List Nat × Nat)} {n : Nat} (h : allF f n = none) : ∀ d, allF f (n + d) = none := by
  intro d
  induction d with
  | zero => exact h
  | succ d ih => show allF f (n + d + 1) = none; simp only [allF]; rw [ih]
theorem allF_le {f : Nat → Option (List Nat × Nat)} {n : Nat} {W : List Nat} (h : allF f n = some W) : ∀ d V, allF f (n + d) = some V → W.length ≤ V.length := by
  intro d
  induction d with
  | zero => intro V hV; rw [show n + 0 = n from rfl, h] at hV; injection hV with e; rw [e]; exact Nat.le_refl _
  | succ d ih =>
    intro V hV
    have e : allF f (n + d + 1) = some V := hV
    simp only [allF] at e
    cases e1 : allF f (n + d) with
    | none => rw [e1] at e; exact absurd e (by simp)
    | some U =>
      rw [e1] at e
      cases e2 : f (n + d) with
      | none => rw [e2] at e; exact absurd e (by simp)
      | some z =>
        rw [e2] at e
        simp only [Option.some.injEq] at e
        have := ih U e1
        rw [← e, List.length_append]
        omega
theorem gr_lt {L g k : Nat} (hg : 1 ≤ g) : k * g < L ↔ k < (L + g - 1) / g := by
  have s : (k + 1) * g = k * g + g := Nat.succ_mul _ _
  have q : k + 1 ≤ (L + g - 1) / g ↔ (k + 1) * g ≤ L + g - 1 := Nat.le_div_iff_mul_le (by omega)
  constructor
  · intro h; have := q.mpr (by omega); omega
  · intro h; have := q.mp (by omega); omega
theorem grp_le {L g : Nat} (hg : 1 ≤ g) : (L + g - 1) / g ≤ L := by
  rcases Nat.lt_or_ge L ((L + g - 1) / g) with h | h
  · have a := (gr_lt hg).mpr h
    have b : L * 1 ≤ L * g := Nat.mul_le_mul_left _ hg
    omega
  · exact h
theorem fx_ext (v : Int32) : uL v.toInt64 % 2 ^ 32 = uI v := by
  unfold uL uI
  rw [show v.toInt64.toBitVec = v.toBitVec.signExtend 64 from rfl, BitVec.toNat_signExtend, BitVec.toNat_setWidth]
  have := v.toBitVec.isLt
  split <;> omega
theorem fx_by {v : Int32} {k : Nat} (hk : k < 4) : uL v.toInt64 / 2 ^ (8 * k) % 256 = uI v / 2 ^ (8 * k) % 256 := by
  have e := fx_ext v
  rw [← e]
  have h := uL_lt v.toInt64
  generalize uL v.toInt64 = n at *
  have hk' : k = 0 ∨ k = 1 ∨ k = 2 ∨ k = 3 := by omega
  rcases hk' with rfl | rfl | rfl | rfl <;> simp only [Nat.mul_zero, Nat.mul_one, Nat.reduceMul, Nat.reducePow] <;> omega
/-- what the records keep, as write wants it -/
def WrH (F : List SFd) (RS : List (List SEn)) : Prop := WfS F ∧ (∀ f, f < F.length → okT (fNm F f)) ∧ OkC F RS ∧ RS.length * ncol F ≤ 10000 ∧ ∀ c, c < ncol F → rF F (lfC F c) ≤ 17 ∧ (∀ r, r < RS.length → txI RS.flatten (cs RS c r (r + 1)) ≤ 20000) ∧ (∀ r e, r ≤ e → e ≤ RS.length → (cs RS c r e).length ≤ 1000 → okP (tyC F c) (pvs RS.flatten (vs RS.flatten (mdC F c) (cs RS c r e)))) ∧ ∀ r e, r ≤ e → e ≤ RS.length → oF (pvs RS.flatten (vs RS.flatten (mdC F c) (cs RS c r e))) (pvs RS.flatten (vs RS.flatten (mdC F c) (cs RS c r e))).length ≤ txI RS.flatten (cs RS c r e)
theorem ck_len {F : List SFd} {RS : List (List SEn)} {c most to : Nat} (h : WrH F RS) (hc : c < ncol F) (hto : to ≤ RS.length) (hm : most ≤ 1000) : ∀ d r B k, chF RS (tyC F c) (rF F (lfC F c)) (mdC F c) c most to d r = some (B, k) → B.length ≤ 34100 * d ∧ k ≤ d := by
  obtain ⟨q1, q2, q3, q4⟩ := h.2.2.2.2 c hc
  refine ch_len (fun r e a b d g => ?_) hm (fun r hr => q2 r (by omega))
  have pl := pvs_len (E := RS.flatten) (l := vs RS.flatten (mdC F c) (cs RS c r e))
  have vle := vs_le (E := RS.flatten) (md := mdC F c) (es := cs RS c r e)
  exact page_len (q3 r e a (by omega) d) (by omega) (Nat.le_trans (q4 r e a (by omega)) g) q1 (h.2.2.1.2 c hc).2.2.1 d
theorem ckF_at {F : List SFd} {RS : List (List SEn)} {most g k c : Nat} (hc : c < ncol F) : ckF F RS most g (k * ncol F + c) = chF RS (tyC F c) (rF F (lfC F c)) (mdC F c) c most (min RS.length (k * g + g)) (min RS.length (k * g + g) - k * g) (k * g) := by
  unfold ckF
  have e1 : (k * ncol F + c) % ncol F = c := by rw [Nat.mul_comm, Nat.mul_add_mod]; exact Nat.mod_eq_of_lt hc
  have e2 : (k * ncol F + c) / ncol F = k := by rw [Nat.mul_comm, Nat.mul_add_div (by omega), Nat.div_eq_of_lt hc]; rfl
  rw [e1, e2]
abbrev FrWx (x y : St) : Prop := Fg (fun o k => o = 0 ∧ (k = 0 ∨ 38 ≤ k ∧ k ≤ 44 ∨ 64 ≤ k ∧ k ≤ 66 ∨ k = 71)) no2 no2 (fun a => a = 26 ∨ a = 27 ∨ a = 33 ∨ a = 36 ∨ a = 39 ∨ a = 40 ∨ a = 41 ∨ a = 42 ∨ a = 44 ∨ a = 50 ∨ a = 51) (fun a => a = 30 ∨ a = 43) x y
abbrev FrWt (x y : St) : Prop := Fg (fun o k => o = 0 ∧ (k = 0 ∨ 38 ≤ k ∧ k ≤ 44 ∨ k = 64 ∨ k = 66 ∨ k = 71)) no2 no2 (fun a => a = 26 ∨ a = 27 ∨ a = 33 ∨ a = 36 ∨ a = 39 ∨ a = 40 ∨ a = 42 ∨ a = 44 ∨ a = 50 ∨ a = 51) (fun a => a = 30 ∨ a = 43) x y
theorem FrWt.x {x y : St} (h : FrWt x y) : FrWx x y := h.mono (fun _ _ z => ⟨z.1, by omega⟩) (fun _ _ z => z) (fun _ _ z => z) (fun _ z => by omega) (fun _ z => z)
theorem FrCk.wt {x y : St} (h : FrCk x y) : FrWt x y := h.mono (fun _ _ z => ⟨z.1, by omega⟩) (fun _ _ z => z) (fun _ _ z => z) (fun _ z => by omega) (fun _ z => z)
theorem FrW.wt {x y : St} (h : FrW x y) : FrWt x y := h.ck.wt
theorem FrSh.wt {x y : St} (h : FrSh x y) : FrWt x y := h.mono (fun _ _ z => ⟨z.1, by omega⟩) (fun _ _ z => z) (fun _ _ z => z) (fun _ z => by omega) (fun _ z => z.elim)
theorem FrWt.rc {x y : St} {RS : List (List SEn)} (f : FrWt x y) (h : RcM x RS) : RcM y RS := h.cg (fun k hk => f.1 0 k (by omega)) (fun a h1 h2 => f.2.2.2.1 a (by omega)) (f.2.2.2.2.1 25 (by decide))
theorem FrWt.lm {x y : St} (f : FrWt x y) (h : LM x) : LM y := fun o => by show y.2.2.2.2.2 o = _; rw [f.2.2.2.2.2]; exact h o
theorem FrWt.rep {x y : St} {F : List SFd} (f : FrWt x y) (h : RepM x 0 F) : RepM y 0 F := by
  have eA : ∀ a, a < 12 → fA y a = fA x a := fun a ha => f.2.2.2.1 a (by omega)
  unfold RepM
  rw [eA 9 (by decide), eA 10 (by decide), eA 3 (by decide), eA 4 (by decide), eA 5 (by decide), eA 7 (by decide), eA 8 (by decide), eA 6 (by decide), eA 11 (by decide)]
  exact h
theorem Wk.sh {x y : St} {W : List Nat} (f : FrSh x y) (h : Wk x W) : Wk y W := ⟨(f.1 0 66 (by decide)).trans h.1, by show y.2.2.2.2.2 42 = _; rw [f.2.2.2.2.2]; exact h.2.1, h.2.2.1, fun i hi hi2 => by show y.2.2.2.1 42 i = _; rw [f.2.2.2.1 42 (by decide)]; exact h.2.2.2 i hi hi2⟩
