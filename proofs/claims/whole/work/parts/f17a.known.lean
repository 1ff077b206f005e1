

theorem known {args : Array Value} {s : State} (hT : ∀ w ∈ TG, w.before args s = true) : ∃ (dC : Nat → ClassId) (dI : Nat → Nat → Nat), ∀ (k : Nat) (q : vw_C), CL[k]? = some q → u_Kn s q.1 q.2.1 q.2.2 (dC k) (dI k) := by
  have h : ∀ k : Nat, ∃ (cc : ClassId) (ii : Nat → Nat), ∀ q : vw_C, CL[k]? = some q → u_Kn s q.1 q.2.1 q.2.2 cc ii := by
    intro k
    match k with
    | 0 =>
      obtain ⟨x, y, h⟩ := u_known (C := R_V) (T := F_V) (N := 15) (n := 15) hT in_V (hT _ w_1_23)
      exact ⟨x, y, fun q hq => by cases hq; exact h⟩
    | 1 =>
      obtain ⟨x, y, h⟩ := u_known (C := R_Snk) (T := F_Snk) (N := 7) (n := 7) hT in_Snk (hT _ w_1_31)
      exact ⟨x, y, fun q hq => by cases hq; exact h⟩
    | 2 =>
      obtain ⟨x, y, h⟩ := u_known (C := R_Scn) (T := F_Scn) (N := 8) (n := 8) hT in_Scn (hT _ w_1_72)
      exact ⟨x, y, fun q hq => by cases hq; exact h⟩
    | 3 =>
      obtain ⟨x, y, h⟩ := u_known (C := R_Sch) (T := F_Sch) (N := 13) (n := 13) hT in_Sch (hT _ w_1_125)
      exact ⟨x, y, fun q hq => by cases hq; exact h⟩
    | 4 =>
      obtain ⟨x, y, h⟩ := u_known (C := R_Rec) (T := F_Rec) (N := 15) (n := 15) hT in_Rec (hT _ w_1_218)
      exact ⟨x, y, fun q hq => by cases hq; exact h⟩
    | 5 =>
      obtain ⟨x, y, h⟩ := u_known (C := R_Wrt) (T := F_Wrt) (N := 20) (n := 20) hT in_Wrt (hT _ w_2_43)
      exact ⟨x, y, fun q hq => by cases hq; exact h⟩
    | 6 =>
      obtain ⟨x, y, h⟩ := u_known (C := R_Vlt) (T := F_Vlt) (N := 20) (n := 20) hT in_Vlt (hT _ w_2_113)
      exact ⟨x, y, fun q hq => by cases hq; exact h⟩
    | 7 =>
      obtain ⟨x, y, h⟩ := u_known (C := R_Opn) (T := F_Opn) (N := 17) (n := 17) hT in_Opn (hT _ w_2_225)
      exact ⟨x, y, fun q hq => by cases hq; exact h⟩
    | 8 =>
      obtain ⟨x, y, h⟩ := u_known (C := R_Src) (T := F_Src) (N := 5) (n := 5) hT in_Src (hT _ w_2_231)
      exact ⟨x, y, fun q hq => by cases hq; exact h⟩
    | 9 =>
      obtain ⟨x, y, h⟩ := u_known (C := R_Qry) (T := F_Qry) (N := 20) (n := 20) hT in_Qry (hT _ w_3_69)
      exact ⟨x, y, fun q hq => by cases hq; exact h⟩
    | 10 =>
      obtain ⟨x, y, h⟩ := u_known (C := R_Ans) (T := F_Ans) (N := 16) (n := 16) hT in_Ans (hT _ w_3_150)
      exact ⟨x, y, fun q hq => by cases hq; exact h⟩
    | 11 =>
      obtain ⟨x, y, h⟩ := u_known (C := R_Asm) (T := F_Asm) (N := 4) (n := 4) hT in_Asm (hT _ w_3_213)
      exact ⟨x, y, fun q hq => by cases hq; exact h⟩
    | 12 =>
      obtain ⟨x, y, h⟩ := u_known (C := R_Mod) (T := F_Mod) (N := 167) (n := 167) hT in_Mod (hT _ w_8_166)
      exact ⟨x, y, fun q hq => by cases hq; exact h⟩
    | k + 13 =>
      obtain ⟨x, y, h⟩ := u_known (C := R_V) (T := F_V) (N := 15) (n := 15) hT in_V (hT _ w_1_23)
      exact ⟨x, y, fun q hq => by simp at hq⟩
  exact ⟨fun k => (h k).choose, fun k => (h k).choose_spec.choose, fun k => (h k).choose_spec.choose_spec⟩
theorem arrs {args : Array Value} {s : State} {dC : Nat → ClassId} {dI : Nat → Nat → Nat} (hT : ∀ w ∈ TG, w.before args s = true) (hKc : ∀ (k : Nat) (q : vw_C), CL[k]? = some q → u_Kn s q.1 q.2.1 q.2.2 (dC k) (dI k)) : ∃ cI cB cJ cZ : ClassId, va_K (dC, dI) CL (TY cI cB cJ cZ) s := by
  obtain ⟨cI, kI, pI, aI, bI, dI⟩ := Cond.arrayClass_spec (hT _ w_1_69)
  obtain ⟨cB, kB, pB, aB, bB, dB⟩ := Cond.arrayClass_spec (hT _ w_1_70)
  obtain ⟨cJ, kJ, pJ, aJ, bJ, dJ⟩ := Cond.arrayClass_spec (hT _ w_2_41)
  obtain ⟨cZ, kZ, pZ, aZ, bZ, dZ⟩ := Cond.arrayClass_spec (hT _ w_3_211)
  refine ⟨cI, cB, cJ, cZ, hKc, fun k q hk => ?_⟩
  match k, hk with
  | 0, hk => cases hk; exact ⟨fun n z => ⟨fun k h => (by cases h), kI, bI, pI, dI⟩, aI⟩
  | 1, hk => cases hk; exact ⟨fun n z => ⟨fun k h => (by cases h), kB, bB, pB, dB⟩, aB⟩
  | 2, hk => cases hk; exact ⟨fun n z => ⟨fun k h => (by cases h), kJ, bJ, pJ, dJ⟩, aJ⟩
  | 3, hk => cases hk; exact ⟨fun n z => ⟨fun k h => (by cases h), kZ, bZ, pZ, dZ⟩, aZ⟩
  | k + 4, hk => simp at hk
theorem kp0 {cells slots : Nat} (hc : cells ≤ 1000) (hs : slots ≤ 1700000) : cells + KP κ0 ≤ 600000 ∧ slots + NP κ0 ≤ 7302250 := by
  have hkp : KP κ0 + 1000 ≤ 600000 ∧ NP κ0 + 1700000 ≤ 7302250 := by decide
  revert hkp
  generalize KP κ0 = a
  generalize NP κ0 = b
  intro hkp
  omega
