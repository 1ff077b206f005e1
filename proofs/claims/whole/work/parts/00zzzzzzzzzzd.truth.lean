/-! truths, and sets of truths: 1 false, 2 true, 4 unknown -/
/-- bits of a set -/
def fB3 (t : Nat) : Bool := t % 2 = 1
def tB3 (t : Nat) : Bool := t / 2 % 2 = 1
def uB3 (t : Nat) : Bool := t / 4 % 2 = 1
def mkS (f t u : Bool) : Nat := (if f then 1 else 0) + (if t then 2 else 0) + (if u then 4 else 0)
/-- not, and, or of sets -/
def sNot (a : Nat) : Nat := mkS (tB3 a) (fB3 a) (uB3 a)
def sAnd (a b : Nat) : Nat := mkS (fB3 a || fB3 b) (tB3 a && tB3 b) (uB3 a && (tB3 b || uB3 b) || uB3 b && (tB3 a || uB3 a))
def sOr (a b : Nat) : Nat := mkS (fB3 a && fB3 b) (tB3 a || tB3 b) (uB3 a && (fB3 b || uB3 b) || uB3 b && (fB3 a || uB3 a))
/-- one set lies in another -/
def sub3 (a b : Nat) : Prop := (fB3 a = true → fB3 b = true) ∧ (tB3 a = true → tB3 b = true) ∧ (uB3 a = true → uB3 b = true)
theorem mkS_lt (f t u : Bool) : mkS f t u < 8 := by cases f <;> cases t <;> cases u <;> decide
theorem mkS_b (f t u : Bool) : fB3 (mkS f t u) = f ∧ tB3 (mkS f t u) = t ∧ uB3 (mkS f t u) = u := by cases f <;> cases t <;> cases u <;> decide
theorem sNot_lt (a : Nat) : sNot a < 8 := mkS_lt _ _ _
theorem sAnd_lt (a b : Nat) : sAnd a b < 8 := mkS_lt _ _ _
theorem sOr_lt (a b : Nat) : sOr a b < 8 := mkS_lt _ _ _
theorem sub3.not {a A : Nat} (h : sub3 a A) : sub3 (sNot a) (sNot A) := by
  unfold sub3 sNot at *
  rw [(mkS_b _ _ _).1, (mkS_b _ _ _).2.1, (mkS_b _ _ _).2.2, (mkS_b _ _ _).1, (mkS_b _ _ _).2.1, (mkS_b _ _ _).2.2]
  exact ⟨h.2.1, h.1, h.2.2⟩
theorem sub3.and {a A c C : Nat} (h : sub3 a A) (k : sub3 c C) : sub3 (sAnd a c) (sAnd A C) := by
  unfold sub3 sAnd at *
  rw [(mkS_b _ _ _).1, (mkS_b _ _ _).2.1, (mkS_b _ _ _).2.2, (mkS_b _ _ _).1, (mkS_b _ _ _).2.1, (mkS_b _ _ _).2.2]
  obtain ⟨h1, h2, h3⟩ := h
  obtain ⟨k1, k2, k3⟩ := k
  simp only [Bool.or_eq_true, Bool.and_eq_true]
  refine ⟨fun z => z.elim (fun z => Or.inl (h1 z)) (fun z => Or.inr (k1 z)), fun z => ⟨h2 z.1, k2 z.2⟩, fun z => ?_⟩
  rcases z with ⟨z1, z2⟩ | ⟨z1, z2⟩
  · exact Or.inl ⟨h3 z1, z2.elim (fun z => Or.inl (k2 z)) (fun z => Or.inr (k3 z))⟩
  · exact Or.inr ⟨k3 z1, z2.elim (fun z => Or.inl (h2 z)) (fun z => Or.inr (h3 z))⟩
theorem sOr_dm {a c : Nat} : sOr a c = sNot (sAnd (sNot a) (sNot c)) := by
  unfold sOr sAnd sNot
  rw [(mkS_b _ _ _).1, (mkS_b _ _ _).2.1, (mkS_b _ _ _).2.2, (mkS_b _ _ _).1, (mkS_b _ _ _).2.1, (mkS_b _ _ _).2.2, (mkS_b _ _ _).1, (mkS_b _ _ _).2.1, (mkS_b _ _ _).2.2]
theorem sub3.or {a A c C : Nat} (h : sub3 a A) (k : sub3 c C) : sub3 (sOr a c) (sOr A C) := by
  rw [sOr_dm, sOr_dm]
  exact (h.not.and k.not).not
theorem i8 {p : Nat → Prop} (h : ∀ i : Fin 8, p i.val) {a : Nat} (ha : a < 8) : p a := h ⟨a, ha⟩
theorem not_eq {a : Nat} (ha : a < 8) : (((((nI a) &&& 1) <<< ((1 : Int32) &&& 31)) ||| (((nI a) >>> ((1 : Int32) &&& 31)) &&& 1)) ||| ((nI a) &&& 4)) = nI (sNot a) := by
  revert ha
  revert a
  decide +kernel
theorem trn_eq {a : Nat} (ha : a < 8) : ((((nI a) &&& 4) ||| (((nI a) &&& 1) <<< ((1 : Int32) &&& 31))) ||| (((nI a) &&& 2) >>> ((1 : Int32) &&& 31))) = nI (sNot a) := by
  revert ha
  revert a
  decide +kernel
theorem s_not {post : Int32 → St → Prop} {a : Nat} {x : St} (ha : a < 8) (p : post (nI (sNot a)) x) : wp_Mod_not post (nI a) x := by
  unfold wp_Mod_not
  have := not_eq ha
  have e : ((((nI a &&& 1) <<< (1 &&& 31)) ||| ((nI a >>> (1 &&& 31)) &&& 1)) ||| (nI a &&& 4)) = nI (sNot a) := this
  rw [e]
  exact p
theorem k_turned {post : Int32 → St → Prop} {a : Nat} {x : St} (ha : a < 8) (p : post (nI (sNot a)) x) : wp_Ans_turned post (nI a) x := by
  unfold wp_Ans_turned
  rw [trn_eq ha]
  exact p
/-- what `both` comes to, as a number -/
def bthI (a b : Int32) : Int32 :=
  let t := (if ((a &&& b) &&& 2) ≤ 0 then (0 : Int32) else 2) ||| (if ((a ||| b) &&& 1) ≤ 0 then 0 else 1)
  if (a &&& 4) ≤ 0 then (if (b &&& 4) ≤ 0 then t ||| 0 else if (a &&& 6) ≤ 0 then t ||| 0 else t ||| 4)
  else if 0 < (b &&& 6) then t ||| 4 else if (b &&& 4) ≤ 0 then t ||| 0 else if (a &&& 6) ≤ 0 then t ||| 0 else t ||| 4
theorem bthI_eq : ∀ i j : Fin 8, bthI (nI i.val) (nI j.val) = nI (sAnd i.val j.val) := by decide +kernel
def jndI (w a b : Int32) : Int32 :=
  let s := if w = 10 then (1 : Int32) else 2
  let k := if w = 10 then (2 : Int32) else 1
  let t := ((a ||| b) &&& s) ||| ((a &&& b) &&& k)
  if (a &&& 4) = 0 then (if (b &&& 4) = 0 then t ||| 0 else if (a &&& (4 ||| k)) = 0 then t ||| 0 else t ||| 4)
  else if ¬ (b &&& (4 ||| k)) = 0 then t ||| 4 else if (b &&& 4) = 0 then t ||| 0 else if (a &&& (4 ||| k)) = 0 then t ||| 0 else t ||| 4
theorem jndI_and : ∀ i j : Fin 8, jndI 10 (nI i.val) (nI j.val) = nI (sAnd i.val j.val) := by decide +kernel
theorem jndI_or : ∀ i j : Fin 8, jndI 11 (nI i.val) (nI j.val) = nI (sOr i.val j.val) := by decide +kernel
theorem s_bthI {post : Int32 → St → Prop} {S : (Int32 → St → Prop) → Int32 → Int32 → Int32 → St → Prop} {a b w : Int32} {x : St} (hw : ¬ w = 0) (p : post (bthI a b) x) : wb_Mod_both post S a b w x := by
  unfold bthI at p
  simp only at p
  unfold wb_Mod_both
  refine bn_f hw ?_
  have m33 : ∀ s0, s0 = (if ((a &&& b) &&& 2) ≤ 0 then (0 : Int32) else 2) → j_Mod_both_33 post S a b w s0 x := by
    intro s0 e
    rw [← e] at p
    unfold j_Mod_both_33
    have m48 : ∀ s1, s1 = (if ((a ||| b) &&& 1) ≤ 0 then (0 : Int32) else 1) → j_Mod_both_48 post S a b w s0 s1 s0 x := by
      intro s1 e1
      rw [← e1] at p
      unfold j_Mod_both_48
      refine nm_e ?_
      have m64 : (¬ (a &&& 4) ≤ 0 → ¬ 0 < (b &&& 6)) → j_Mod_both_64 post S a b w (s0 ||| s1) (s0 ||| s1) x := by
        intro h6
        unfold j_Mod_both_64 j_Mod_both_81 j_Mod_both_77 j_Mod_both_82
        have p2 : post (if (b &&& 4) ≤ 0 then (s0 ||| s1) ||| 0 else if (a &&& 6) ≤ 0 then (s0 ||| s1) ||| 0 else (s0 ||| s1) ||| 4) x := by
          by_cases c : (a &&& 4) ≤ 0
          · rw [if_pos c] at p; exact p
          · rw [if_neg c, if_neg (h6 c)] at p; exact p
        by_cases c1 : (b &&& 4) ≤ 0
        · rw [if_pos c1] at p2; exact br_t c1 p2
        · rw [if_neg c1] at p2
          by_cases c2 : (a &&& 6) ≤ 0
          · rw [if_pos c2] at p2; exact br_f c1 (br_t c2 p2)
          · rw [if_neg c2] at p2; exact br_f c1 (br_f c2 p2)
      by_cases c : (a &&& 4) ≤ 0
      · exact br_t c (m64 (fun e => absurd c e))
      · refine br_f c ?_
        by_cases c2 : 0 < (b &&& 6)
        · rw [if_neg c, if_pos c2] at p
          unfold j_Mod_both_77 j_Mod_both_82
          exact br_t c2 p
        · exact br_f c2 (m64 (fun _ => c2))
    by_cases c : ((a ||| b) &&& 1) ≤ 0
    · exact br_t c (m48 0 (by rw [if_pos c]))
    · exact br_f c (m48 1 (by rw [if_neg c]))
  by_cases c : ((a &&& b) &&& 2) ≤ 0
  · exact br_t c (m33 0 (by rw [if_pos c]))
  · exact br_f c (m33 2 (by rw [if_neg c]))
theorem s_both1 {post : Int32 → St → Prop} {a b : Nat} {x : St} (ha : a < 8) (hb : b < 8) (p : post (nI (sAnd a b)) x) : wp_Mod_both post (nI a) (nI b) 1 x := by
  unfold wp_Mod_both
  show wb_Mod_both post (wr_Mod_both 199) (nI a) (nI b) 1 x
  refine s_bthI (by decide) ?_
  have := bthI_eq ⟨a, ha⟩ ⟨b, hb⟩
  have e : bthI (nI a) (nI b) = nI (sAnd a b) := this
  rw [e]
  exact p
theorem s_both0 {post : Int32 → St → Prop} {a b : Nat} {x : St} (ha : a < 8) (hb : b < 8) (p : post (nI (sOr a b)) x) : wp_Mod_both post (nI a) (nI b) 0 x := by
  unfold wp_Mod_both
  show wb_Mod_both post (wr_Mod_both 199) (nI a) (nI b) 0 x
  unfold wb_Mod_both
  refine bn_t rfl (s_not ha (s_not hb ?_))
  show wb_Mod_both _ (wr_Mod_both 198) (nI (sNot a)) (nI (sNot b)) 1 x
  refine s_bthI (by decide) ?_
  have e : bthI (nI (sNot a)) (nI (sNot b)) = nI (sAnd (sNot a) (sNot b)) := bthI_eq ⟨sNot a, sNot_lt a⟩ ⟨sNot b, sNot_lt b⟩
  rw [e]
  refine s_not (sAnd_lt _ _) ?_
  rw [← sOr_dm]
  exact p
theorem k_jndI {post : Int32 → St → Prop} {a b w : Int32} {x : St} (p : post (jndI w a b) x) : wp_Ans_joined post w a b x := by
  unfold jndI at p
  simp only at p
  unfold wp_Ans_joined j_Ans_joined_11
  have m23 : ∀ l3 s0, l3 = (if w = 10 then (1 : Int32) else 2) → s0 = (if w = 10 then (2 : Int32) else 1) → j_Ans_joined_23 post w a b l3 s0 x := by
    intro l3 s0 e1 e2
    rw [← e1, ← e2] at p
    unfold j_Ans_joined_23
    refine nm_e ?_
    generalize ((a ||| b) &&& l3) ||| ((a &&& b) &&& s0) = t at *
    have m54 : (¬ (a &&& 4) = 0 → (b &&& (4 ||| s0)) = 0) → j_Ans_joined_54 post w a b l3 s0 t x := by
      intro h6
      unfold j_Ans_joined_54 j_Ans_joined_73 j_Ans_joined_69 j_Ans_joined_74 j_Ans_joined_88
      have p2 : post (if (b &&& 4) = 0 then t ||| 0 else if (a &&& (4 ||| s0)) = 0 then t ||| 0 else t ||| 4) x := by
        by_cases c : (a &&& 4) = 0
        · rw [if_pos c] at p; exact p
        · rw [if_neg c, if_neg (fun e => e (h6 c))] at p; exact p
      by_cases c1 : (b &&& 4) = 0
      · rw [if_pos c1] at p2; exact br_t c1 (br_t rfl p2)
      · rw [if_neg c1] at p2
        by_cases c2 : (a &&& (4 ||| s0)) = 0
        · rw [if_pos c2] at p2; exact br_f c1 (br_t c2 (br_t rfl p2))
        · rw [if_neg c2] at p2; exact br_f c1 (br_f c2 (br_f (by decide) p2))
    by_cases c : (a &&& 4) = 0
    · exact br_t c (m54 (fun e => absurd c e))
    · refine br_f c ?_
      by_cases c2 : (b &&& (4 ||| s0)) = 0
      · exact bn_t c2 (m54 (fun _ => c2))
      · rw [if_neg c, if_pos c2] at p
        unfold j_Ans_joined_69 j_Ans_joined_74 j_Ans_joined_88
        exact bn_f c2 (br_f (by decide) p)
  by_cases c : w = 10
  · exact bn_t c (bn_t c (m23 1 2 (by rw [if_pos c]) (by rw [if_pos c])))
  · exact bn_f c (bn_f c (m23 2 1 (by rw [if_neg c]) (by rw [if_neg c])))
theorem k_join {post : Int32 → St → Prop} {a b : Nat} {w : Int32} {x : St} (ha : a < 8) (hb : b < 8) (hw : w = 10 ∨ w = 11) (p : post (nI (if w = 10 then sAnd a b else sOr a b)) x) : wp_Ans_joined post w (nI a) (nI b) x := by
  refine k_jndI ?_
  rcases hw with e | e
  · subst e
    have e2 : jndI 10 (nI a) (nI b) = nI (sAnd a b) := jndI_and ⟨a, ha⟩ ⟨b, hb⟩
    rw [if_pos rfl] at p
    rw [e2]
    exact p
  · subst e
    have e2 : jndI 11 (nI a) (nI b) = nI (sOr a b) := jndI_or ⟨a, ha⟩ ⟨b, hb⟩
    rw [if_neg (by decide)] at p
    rw [e2]
    exact p
