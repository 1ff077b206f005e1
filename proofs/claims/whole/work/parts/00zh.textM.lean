/-! TEXTS within ' and ' -/
def hexV (v : Int32) : Int32 := if dgt v then v - 48 else if 97 ≤ v ∧ v ≤ 102 then (v - 97) + 10 else -1
/-- a \ at k: how many bytes, the byte that is meant, the fault's place or -1 -/
def escL (T : Nat → Int32) (n k : Nat) : Nat × Int32 × Int32 :=
  if ¬ k + 1 < n then (0, 0, nI n)
  else if T (k + 1) = 39 ∨ T (k + 1) = 92 then (2, T (k + 1), -1)
  else if ¬ T (k + 1) = 120 then (0, 0, nI k)
  else if ¬ k + 2 < n then (0, 0, nI n)
  else if hexV (T (k + 2)) = -1 then (0, 0, nI k)
  else if ¬ k + 3 < n then (0, 0, nI n)
  else if hexV (T (k + 3)) = -1 then (0, 0, nI k)
  else (4, 16 * hexV (T (k + 2)) + hexV (T (k + 3)), -1)
def qtR (T : Nat → Int32) (n : Nat) : Nat → Nat → List Int32 → Int32 × Nat × List Int32
  | 0, k, a => (nI k, k, a)
  | d + 1, k, a =>
    if k < n ∧ T k = 39 then (-1, k + 1, a)
    else if ¬ k < n ∨ T k < 32 ∨ 126 < T k ∨ a.length = 255 then (nI k, k, a)
    else if T k = 92 then (if (escL T n k).2.2 = -1 then qtR T n d (k + (escL T n k).1) (a ++ [(escL T n k).2.1]) else ((escL T n k).2.2, k, a))
    else qtR T n d (k + 1) (a ++ [T k])
/-- the bytes of a text from a place behind its ' on, a being those before it -/
def qtO (T : Nat → Int32) (n k : Nat) (a : List Int32) : Int32 × Nat × List Int32 := qtR T n (n - k + 1) k a
theorem esc_ok {T : Nat → Int32} {n k : Nat} (h : (escL T n k).2.2 = -1) (hn : n < 2 ^ 31) (hk : k < 2 ^ 31) : 2 ≤ (escL T n k).1 ∧ k + (escL T n k).1 ≤ n := by
  unfold escL at h ⊢
  split at h
  · exact absurd h (nI_nm1 hn)
  rename_i c1
  rw [if_neg c1]
  split at h
  · rename_i c2
    rw [if_pos c2]
    show 2 ≤ 2 ∧ k + 2 ≤ n
    omega
  rename_i c2
  rw [if_neg c2]
  split at h
  · exact absurd h (nI_nm1 hk)
  rename_i c3
  rw [if_neg c3]
  split at h
  · exact absurd h (nI_nm1 hn)
  rename_i c4
  rw [if_neg c4]
  split at h
  · exact absurd h (nI_nm1 hk)
  rename_i c5
  rw [if_neg c5]
  split at h
  · exact absurd h (nI_nm1 hn)
  rename_i c6
  rw [if_neg c6]
  split at h
  · exact absurd h (nI_nm1 hk)
  rename_i c7
  rw [if_neg c7]
  show 2 ≤ 4 ∧ k + 4 ≤ n
  omega
theorem qtR_fuel {T : Nat → Int32} {n : Nat} (hn : n < 2 ^ 31) : ∀ d e k a, n - k < d → n - k < e → qtR T n d k a = qtR T n e k a := by
  intro d
  induction d with
  | zero => intro e k a h; omega
  | succ d ih =>
    intro e k a h1 h2
    cases e with
    | zero => omega
    | succ e =>
      show (if k < n ∧ T k = 39 then _ else if ¬ k < n ∨ T k < 32 ∨ 126 < T k ∨ a.length = 255 then _ else if T k = 92 then (if (escL T n k).2.2 = -1 then qtR T n d _ _ else _) else qtR T n d _ _) = (if k < n ∧ T k = 39 then _ else if ¬ k < n ∨ T k < 32 ∨ 126 < T k ∨ a.length = 255 then _ else if T k = 92 then (if (escL T n k).2.2 = -1 then qtR T n e _ _ else _) else qtR T n e _ _)
      by_cases c1 : k < n ∧ T k = 39
      · rw [if_pos c1, if_pos c1]
      rw [if_neg c1, if_neg c1]
      by_cases c2 : ¬ k < n ∨ T k < 32 ∨ 126 < T k ∨ a.length = 255
      · rw [if_pos c2, if_pos c2]
      rw [if_neg c2, if_neg c2]
      have hk : k < n := Classical.byContradiction (fun z => c2 (Or.inl z))
      by_cases c3 : T k = 92
      · rw [if_pos c3, if_pos c3]
        by_cases c4 : (escL T n k).2.2 = -1
        · have := esc_ok c4 hn (by omega)
          rw [if_pos c4, if_pos c4, ih e _ _ (by omega) (by omega)]
        · rw [if_neg c4, if_neg c4]
      · rw [if_neg c3, if_neg c3, ih e _ _ (by omega) (by omega)]
theorem qtO_eq {T : Nat → Int32} {n k : Nat} {a : List Int32} (hn : n < 2 ^ 31) : qtO T n k a =
    if k < n ∧ T k = 39 then (-1, k + 1, a)
    else if ¬ k < n ∨ T k < 32 ∨ 126 < T k ∨ a.length = 255 then (nI k, k, a)
    else if T k = 92 then (if (escL T n k).2.2 = -1 then qtO T n (k + (escL T n k).1) (a ++ [(escL T n k).2.1]) else ((escL T n k).2.2, k, a))
    else qtO T n (k + 1) (a ++ [T k]) := by
  unfold qtO
  show (if k < n ∧ T k = 39 then _ else if ¬ k < n ∨ T k < 32 ∨ 126 < T k ∨ a.length = 255 then _ else if T k = 92 then (if (escL T n k).2.2 = -1 then qtR T n (n - k) _ _ else _) else qtR T n (n - k) _ _) = _
  by_cases c1 : k < n ∧ T k = 39
  · rw [if_pos c1, if_pos c1]
  rw [if_neg c1, if_neg c1]
  by_cases c2 : ¬ k < n ∨ T k < 32 ∨ 126 < T k ∨ a.length = 255
  · rw [if_pos c2, if_pos c2]
  rw [if_neg c2, if_neg c2]
  have hk : k < n := Classical.byContradiction (fun z => c2 (Or.inl z))
  by_cases c3 : T k = 92
  · rw [if_pos c3, if_pos c3]
    by_cases c4 : (escL T n k).2.2 = -1
    · have := esc_ok c4 hn (by omega)
      rw [if_pos c4, if_pos c4, qtR_fuel hn (n - k) _ _ _ (by omega) (show n - (k + (escL T n k).1) < n - (k + (escL T n k).1) + 1 by omega)]
    · rw [if_neg c4, if_neg c4]
  · rw [if_neg c3, if_neg c3, qtR_fuel hn (n - k) _ _ _ (by omega) (show n - (k + 1) < n - (k + 1) + 1 by omega)]
/-- behind a \ (which stands at b; the place is b + 1) -/
theorem s_behind {post : Int32 → St → Prop} {x : St} {T : Nat → Int32} {n b : Nat} (h : TxM x T n) (hk : fI x 0 16 = nI (b + 1)) (hb : b < n) (he : fI x 0 17 = -1)
    (p1 : (escL T n b).2.2 = -1 → post (escL T n b).2.1 (setI x 0 16 (nI (b + (escL T n b).1))))
    (p0 : (escL T n b).2.2 ≠ -1 → ∀ v j, j ≤ n + 3 → post v (setI (setI x 0 16 (nI j)) 0 17 (escL T n b).2.2)) : wp_Mod_behind post (nI b) x := by
  have hn := h.2.1
  unfold wp_Mod_behind
  refine s_look h hk (by omega) (nm_r (e' := setI x 0 16 (nI (b + 2))) (by rw [hk, nI_1]) ?_)
  by_cases c1 : b + 1 < n
  · rw [if_pos c1]
    unfold j_Mod_behind_27 j_Mod_behind_49
    by_cases c2 : T (b + 1) = 39
    · have e : escL T n b = (2, T (b + 1), -1) := by unfold escL; rw [if_neg (fun z => z c1), if_pos (Or.inl c2)]
      rw [e] at p1
      exact br_t c2 (p1 rfl)
    refine br_f c2 ?_
    by_cases c3 : T (b + 1) = 92
    · have e : escL T n b = (2, T (b + 1), -1) := by unfold escL; rw [if_neg (fun z => z c1), if_pos (Or.inr c3)]
      rw [e] at p1
      exact bn_t c3 (p1 rfl)
    refine bn_f c3 ?_
    have c23 : ¬ (T (b + 1) = 39 ∨ T (b + 1) = 92) := fun z => z.elim c2 c3
    by_cases c4 : T (b + 1) = 120
    · refine br_t c4 ?_
      have es : escL T n b = if ¬ b + 2 < n then (0, 0, nI n) else if hexV (T (b + 2)) = -1 then (0, 0, nI b) else if ¬ b + 3 < n then (0, 0, nI n) else if hexV (T (b + 3)) = -1 then (0, 0, nI b) else (4, 16 * hexV (T (b + 2)) + hexV (T (b + 3)), -1) := by
        unfold escL
        rw [if_neg (fun z => z c1), if_neg c23, if_neg (fun z => z c4)]
      -- one digit
      have dig : ∀ (R : Int32 → Int32 → Int32 → Int32 → St → Prop) (l2 v i : Int32) (j : Nat), j ≤ n + 1 → (j < n → hexV (T j) ≠ -1 → R (nI b) l2 (16 * v + hexV (T j)) (i + 1) (setI x 0 16 (nI (j + 1)))) → (¬ j < n → ∀ w, R (nI b) l2 w (i + 1) (setI (setI x 0 16 (nI (j + 1))) 0 17 (nI n))) → (j < n → hexV (T j) = -1 → ∀ w, R (nI b) l2 w (i + 1) (setI (setI x 0 16 (nI (j + 1))) 0 17 (nI b))) → ¬ 2 ≤ i → j_Mod_behind_59 post R (nI b) l2 v i (setI x 0 16 (nI j)) := by
        intro R l2 v i j hj q1 q2 q3 hi
        unfold j_Mod_behind_59
        refine br_f hi (bn_t he (s_look (h.I (by decide)) (k := j) rfl (by omega) (s_isDigit ?_)))
        have go : ∀ (d hx : Int32), d = (if j < n then T j else -1) → hx = (if j < n then hexV (T j) else -1) → j_Mod_behind_121 post R (nI b) l2 v i d hx (setI x 0 16 (nI j)) := by
          intro d hx hd hh
          unfold j_Mod_behind_121 j_Mod_behind_144
          have st : ∀ e : Int32, setI (setI (setI x 0 16 (nI j)) 0 17 e) 0 16 (nI (j + 1)) = setI (setI x 0 16 (nI (j + 1))) 0 17 e := fun e => by rw [setI_comm (by decide), setI_setI]
          by_cases g : j < n
          · rw [if_pos g] at hd hh
            by_cases g2 : hexV (T j) = -1
            · refine bn_t (by rw [hh, g2]) (bn_f (by
                rw [hd]
                intro z
                have := (h.2.2.2 j g).2.1
                rw [z] at this
                exact absurd this (by decide)) (s_fail ?_))
              rw [if_pos (show fI (setI x 0 16 (nI j)) 0 17 = -1 from he)]
              unfold j_Mod_behind_147
              refine nm_e (nm_r (e' := setI (setI x 0 16 (nI (j + 1))) 0 17 (nI b)) ?_ (q3 g g2 _))
              show setI (setI (setI x 0 16 (nI j)) 0 17 (nI b)) 0 16 (nI j + 1) = _
              rw [nI_1, st]
            · refine bn_f (by rw [hh]; exact g2) ?_
              unfold j_Mod_behind_147
              rw [hh]
              refine nm_e (nm_r (e' := setI x 0 16 (nI (j + 1))) ?_ (q1 g g2))
              show setI (setI x 0 16 (nI j)) 0 16 (nI j + 1) = _
              rw [nI_1, setI_setI]
          · rw [if_neg g] at hd hh
            refine bn_t hh (bn_t hd (s_fail ?_))
            rw [if_pos (show fI (setI x 0 16 (nI j)) 0 17 = -1 from he), show fI (setI x 0 16 (nI j)) 0 15 = nI n from h.1]
            unfold j_Mod_behind_147
            refine nm_e (nm_r (e' := setI (setI x 0 16 (nI (j + 1))) 0 17 (nI n)) ?_ (q2 g _))
            show setI (setI (setI x 0 16 (nI j)) 0 17 (nI n)) 0 16 (nI j + 1) = _
            rw [nI_1, st]
        unfold j_Mod_behind_120
        by_cases g : j < n
        · rw [if_pos g] at go ⊢
          by_cases d1 : dgt (T j)
          · rw [if_pos d1]
            exact br_f (by decide) (go _ _ rfl (by rw [if_pos g]; unfold hexV; rw [if_pos d1]))
          · rw [if_neg d1]
            refine br_t rfl ⟨fun a => go _ _ rfl ?_, fun a => ⟨fun a2 => go _ _ rfl ?_, fun a2 => go _ _ rfl ?_⟩⟩
            · rw [if_pos g]; unfold hexV; rw [if_neg d1, if_neg (fun z => by have := z.1; clear go; (first | omega | (simp (disch := omega) only [Int32.le_iff_toInt_le, Int32.lt_iff_toInt_lt, z_eq, z_in, nI_toInt, z_cl, z_m1, z_sg, z_255, Int32.reduceToInt] at * <;> omega) | (simp only [Int32.le_iff_toInt_le, Int32.lt_iff_toInt_lt, z_eq, z_in, z_add, z_sub, z_mul, z_neg, z_nI, z_cl, z_sg, z_255, z_lit, Int32.reduceToInt] at * <;> omega)))]
            · rw [if_pos g]; unfold hexV; rw [if_neg d1, if_neg (fun z => by have := z.2; clear go; (first | omega | (simp (disch := omega) only [Int32.le_iff_toInt_le, Int32.lt_iff_toInt_lt, z_eq, z_in, nI_toInt, z_cl, z_m1, z_sg, z_255, Int32.reduceToInt] at * <;> omega) | (simp only [Int32.le_iff_toInt_le, Int32.lt_iff_toInt_lt, z_eq, z_in, z_add, z_sub, z_mul, z_neg, z_nI, z_cl, z_sg, z_255, z_lit, Int32.reduceToInt] at * <;> omega)))]
            · rw [if_pos g]; unfold hexV; rw [if_neg d1, if_pos (by clear go; constructor <;> (first | omega | (simp (disch := omega) only [Int32.le_iff_toInt_le, Int32.lt_iff_toInt_lt, z_eq, z_in, nI_toInt, z_cl, z_m1, z_sg, z_255, Int32.reduceToInt] at * <;> omega) | (simp only [Int32.le_iff_toInt_le, Int32.lt_iff_toInt_lt, z_eq, z_in, z_add, z_sub, z_mul, z_neg, z_nI, z_cl, z_sg, z_255, z_lit, Int32.reduceToInt] at * <;> omega)))]
        · rw [if_neg g] at go ⊢
          rw [if_neg (show ¬ dgt (-1) by decide)]
          refine br_t rfl (br_t (by decide) (go _ _ rfl (by rw [if_neg g])))
      have end2 : ∀ (R : Int32 → Int32 → Int32 → Int32 → St → Prop) (l2 v i : Int32) (y : St), (2 ≤ i ∨ fI y 0 17 ≠ -1) → post v y → j_Mod_behind_59 post R (nI b) l2 v i y := by
        intro R l2 v i y hi q
        unfold j_Mod_behind_59 j_Mod_behind_171
        by_cases g : 2 ≤ i
        · exact br_t g q
        · exact br_f g (bn_f (hi.resolve_left g) q)
      refine ⟨3, ?_⟩
      show j_Mod_behind_59 post (wl_Mod_behind_59 post 2) _ _ _ _ _
      refine dig _ _ _ _ (b + 2) (by omega) (fun a1 a2 => ?_) (fun a1 w => ?_) (fun a1 a2 w => ?_) (by decide)
      · show j_Mod_behind_59 post (wl_Mod_behind_59 post 1) _ _ _ _ _
        refine dig _ _ _ _ (b + 3) (by omega) (fun b1 b2 => ?_) (fun b1 w => ?_) (fun b1 b2 w => ?_) (by decide)
        · rw [if_neg (fun z => z a1), if_neg a2, if_neg (fun z => z b1), if_neg b2] at es
          rw [es] at p1
          refine end2 _ _ _ _ _ (Or.inl (by decide)) ?_
          have := p1 rfl
          rw [show (16 : Int32) * 0 + hexV (T (b + 2)) = hexV (T (b + 2)) from by rw [Int32.mul_zero, Int32.zero_add]]
          exact this
        · rw [if_neg (fun z => z a1), if_neg a2, if_pos b1] at es
          rw [es] at p0
          exact end2 _ _ _ _ _ (Or.inl (by decide)) (p0 (nI_nm1 (by omega)) _ _ (by omega))
        · rw [if_neg (fun z => z a1), if_neg a2, if_neg (fun z => z b1), if_pos b2] at es
          rw [es] at p0
          exact end2 _ _ _ _ _ (Or.inl (by decide)) (p0 (nI_nm1 (by omega)) _ _ (by omega))
      · rw [if_pos a1] at es
        rw [es] at p0
        exact end2 _ _ _ _ _ (Or.inr (nI_nm1 (f := n) (by omega))) (p0 (nI_nm1 (by omega)) _ _ (by omega))
      · rw [if_neg (fun z => z a1), if_pos a2] at es
        rw [es] at p0
        exact end2 _ _ _ _ _ (Or.inr (nI_nm1 (f := b) (by omega))) (p0 (nI_nm1 (by omega)) _ _ (by omega))
    · have e : escL T n b = (0, 0, nI b) := by unfold escL; rw [if_neg (fun z => z c1), if_neg c23, if_pos c4]
      rw [e] at p0
      have hp := (h.2.2.2 (b + 1) c1).2.1
      refine br_f c4 (bn_f (fun z => by rw [z] at hp; exact absurd hp (by decide)) (s_fail ?_))
      rw [if_pos (show fI (setI x 0 16 (nI (b + 2))) 0 17 = -1 from he)]
      exact p0 (nI_nm1 (by omega)) _ _ (by omega)
  · rw [if_neg c1]
    have e : escL T n b = (0, 0, nI n) := by unfold escL; rw [if_pos c1]
    rw [e] at p0
    unfold j_Mod_behind_49
    refine br_f (by decide) (bn_f (by decide) (br_f (by decide) (bn_t rfl (s_fail ?_))))
    rw [if_pos (show fI (setI x 0 16 (nI (b + 2))) 0 17 = -1 from he), show fI (setI x 0 16 (nI (b + 2))) 0 15 = nI n from h.1]
    exact p0 (nI_nm1 (by omega)) _ _ (by omega)
