/-! NUMBERS -/
/-- digits from a place on: the place behind them, the number below 0 that they make, whether it is too far -/
def dgR (T : Nat → Int32) (n : Nat) : Nat → Nat → Int64 → Bool → Nat × Int64 × Bool
  | 0, k, v, b => (k, v, b)
  | d + 1, k, v, b => if k < n ∧ dgt (T k) then dgR T n d (k + 1) (10 * v - (T k - 48).toInt64) (b || decide (v < ((-9223372036854775808) + (T k - 48).toInt64) / 10)) else (k, v, b)
def dgO (T : Nat → Int32) (n k : Nat) (v : Int64) (b : Bool) : Nat × Int64 × Bool := dgR T n (n - k) k v b
theorem dgO_go {T : Nat → Int32} {n k : Nat} {v : Int64} {b : Bool} (h : k < n) (hd : dgt (T k)) : dgO T n k v b = dgO T n (k + 1) (10 * v - (T k - 48).toInt64) (b || decide (v < ((-9223372036854775808) + (T k - 48).toInt64) / 10)) := by
  unfold dgO
  rw [show n - k = (n - (k + 1)) + 1 by omega]
  show (if k < n ∧ dgt (T k) then _ else _) = _
  rw [if_pos ⟨h, hd⟩]
theorem dgO_no {T : Nat → Int32} {n k : Nat} {v : Int64} {b : Bool} (h : ¬ (k < n ∧ dgt (T k))) : dgO T n k v b = (k, v, b) := by
  unfold dgO
  by_cases c : k < n
  · rw [show n - k = (n - (k + 1)) + 1 by omega]
    show (if k < n ∧ dgt (T k) then _ else _) = _
    rw [if_neg h]
  · rw [show n - k = 0 by omega]
    rfl
/-- is it not to stand? minus, the place of the first digit, the place behind -/
def nmBad (T : Nat → Int32) (mi : Prop) (k1 : Nat) (r : Nat × Int64 × Bool) : Prop := r.2.2 = true ∨ (T k1 = 48 ∧ (mi ∨ k1 + 1 < r.1)) ∨ (¬ mi ∧ r.2.1 = -9223372036854775808)
/-- where the first digit should be -/
def nmK (T : Nat → Int32) (n k : Nat) : Nat := if k < n ∧ T k = 45 then k + 1 else k
def nmD (T : Nat → Int32) (n k : Nat) : Prop := nmK T n k < n ∧ dgt (T (nmK T n k))
/-- what a NUMBER at k comes to: it stands, as v, up to k2 -/
def nmOk (T : Nat → Int32) (n k k2 : Nat) (v : Int64) : Prop := nmD T n k ∧ k2 = (dgO T n (nmK T n k) 0 false).1 ∧ ¬ nmBad T (k < n ∧ T k = 45) (nmK T n k) (dgO T n (nmK T n k) 0 false) ∧ v = if k < n ∧ T k = 45 then (dgO T n (nmK T n k) 0 false).2.1 else -(dgO T n (nmK T n k) 0 false).2.1
/-- it can't stand: told by place e -/
def nmEr (T : Nat → Int32) (n k k2 e : Nat) : Prop := (¬ nmD T n k ∧ k2 = nmK T n k ∧ e = if nmK T n k = n then n else k) ∨ (nmD T n k ∧ k2 = (dgO T n (nmK T n k) 0 false).1 ∧ nmBad T (k < n ∧ T k = 45) (nmK T n k) (dgO T n (nmK T n k) 0 false) ∧ e = k)
theorem dgR_le (T : Nat → Int32) (n : Nat) : ∀ d k v b, k ≤ n → k ≤ (dgR T n d k v b).1 ∧ (dgR T n d k v b).1 ≤ n := by
  intro d
  induction d with
  | zero => intro k v b h; exact ⟨Nat.le_refl _, h⟩
  | succ d ih =>
    intro k v b h
    show k ≤ (if k < n ∧ dgt (T k) then dgR T n d (k + 1) _ _ else (k, v, b)).1 ∧ (if k < n ∧ dgt (T k) then dgR T n d (k + 1) _ _ else (k, v, b)).1 ≤ n
    by_cases c : k < n ∧ dgt (T k)
    · rw [if_pos c]
      have := ih (k + 1) (10 * v - (T k - 48).toInt64) (b || decide (v < ((-9223372036854775808) + (T k - 48).toInt64) / 10)) (by omega)
      omega
    · rw [if_neg c]
      exact ⟨Nat.le_refl _, h⟩
theorem s_readNumber {post : Int64 → St → Prop} {x : St} {T : Nat → Int32} {n k : Nat} (h : TxM x T n) (hk : fI x 0 16 = nI k) (hb : k ≤ n) (he : fI x 0 17 = -1)
    (p1 : ∀ k2 v, nmOk T n k k2 v → post v (setI x 0 16 (nI k2)))
    (p0 : ∀ k2 e v, nmEr T n k k2 e → post v (setI (setI x 0 16 (nI k2)) 0 17 (nI e))) : wp_Mod_readNumber post x := by
  have hn := h.2.1
  have main : ∀ mi : Int32, (mi = 0 ↔ ¬ (k < n ∧ T k = 45)) → nmK T n k ≤ n → j_Mod_readNumber_34 post (nI k) mi (setI x 0 16 (nI (nmK T n k))) := by
    intro mi hmi hk1
    generalize hK : nmK T n k = k1 at *
    have hkk : k ≤ k1 := by rw [← hK]; unfold nmK; split <;> omega
    unfold j_Mod_readNumber_34
    refine s_look (h.I (by decide)) (k := k1) rfl (by omega) (s_isDigit ?_)
    by_cases d : k1 < n ∧ dgt (T k1)
    · rw [if_pos d.1, if_pos d.2]
      refine bn_f (by decide) (s_look (h.I (by decide)) (k := k1) rfl (by omega) ?_)
      rw [if_pos d.1]
      have go : ∀ z : Int32, (z = 0 ↔ ¬ T k1 = 48) → j_Mod_readNumber_83 post (nI k) mi z (setI x 0 16 (nI k1)) := by
        intro z hz
        unfold j_Mod_readNumber_83
        refine nm_r (e' := nI k1) rfl ?_
        refine lp_Mod_readNumber_96 (fun a0 a1 a2 a3 a4 a5 y => nI k = a0 ∧ mi = a1 ∧ z = a2 ∧ nI k1 = a3 ∧ ∃ j b, k1 ≤ j ∧ j ≤ n ∧ (if b = true then 1 else 0) = a5 ∧ setI x 0 16 (nI j) = y ∧ dgO T n k1 0 false = dgO T n j a4 b) (fun _ _ _ _ _ _ y => n - (fI y 0 16).toNatClampNeg) ?_ _ _ _ _ _ _ _ ⟨rfl, rfl, rfl, rfl, k1, false, Nat.le_refl _, hk1, rfl, rfl, rfl⟩
        rintro R a0 a1 a2 a3 v a5 y ⟨rfl, rfl, rfl, rfl, j, b, j1, j2, rfl, rfl, hr⟩ ih
        unfold j_Mod_readNumber_96
        refine s_look (h.I (by decide)) (k := j) rfl (by omega) (s_isDigit ?_)
        by_cases c : j < n ∧ dgt (T j)
        · rw [if_pos c.1, if_pos c.2]
          refine br_f (by decide) (s_look (h.I (by decide)) (k := j) rfl (by omega) ?_)
          rw [if_pos c.1]
          refine nm_e ?_
          have next : ∀ w : Int32, (if (b || decide (v < ((-9223372036854775808) + (T j - 48).toInt64) / 10)) = true then 1 else 0) = w → j_Mod_readNumber_142 post R (nI k) mi z (nI k1) v (if b = true then 1 else 0) (T j - 48) w (setI x 0 16 (nI j)) := by
            intro w hw
            unfold j_Mod_readNumber_142
            refine nm_e (nm_r (e' := setI x 0 16 (nI (j + 1))) (by show setI (setI x 0 16 (nI j)) 0 16 (nI j + 1) = _; rw [setI_setI, nI_1]) ?_)
            refine ih _ _ _ _ _ _ _ ⟨rfl, rfl, rfl, rfl, j + 1, _, by omega, by omega, hw, rfl, by rw [hr, dgO_go c.1 c.2]⟩ ?_
            show n - (nI (j + 1)).toNatClampNeg < n - (nI j).toNatClampNeg
            rw [nI_clamp (by omega), nI_clamp (by omega)]
            omega
          unfold j_Mod_readNumber_137
          by_cases cb : b = true
          · rw [if_pos cb] at next ⊢
            exact bn_f (by decide) (next 1 (by rw [cb]; rfl))
          · have cb2 := bt_f cb
            rw [if_neg cb] at next ⊢
            refine bn_t rfl ⟨fun q => next 0 ?_, fun q => next 1 ?_⟩
            · have q := (lg_cmp_ge _ _).mp q
              rw [cb2, Bool.false_or, if_neg (fun w => lg_le_not_lt q (of_decide_eq_true w))]
            · have q : v < ((-9223372036854775808) + (T j - 48).toInt64) / 10 := by
                rcases lg_tri v (((-9223372036854775808) + (T j - 48).toInt64) / 10) with w | w | w
                · exact w
                · exact absurd ((lg_cmp_ge _ _).mpr (by rw [w]; exact Int64.le_refl _)) q
                · exact absurd ((lg_cmp_ge _ _).mpr (Int64.le_of_lt w)) q
              rw [if_pos (by rw [decide_eq_true q, Bool.or_true])]
        · have e0 : (if dgt (if j < n then T j else -1) then (1 : Int32) else 0) = 0 := by
            rw [if_neg]
            by_cases c2 : j < n
            · rw [if_pos c2]; exact fun w => c ⟨c2, w⟩
            · rw [if_neg c2]; decide
          rw [e0]
          rw [dgO_no c] at hr
          refine br_t rfl ?_
          have bad : nmBad T (k < n ∧ T k = 45) k1 (j, v, b) → j_Mod_readNumber_206 post (nI k) mi z (nI k1) v (if b = true then 1 else 0) (setI x 0 16 (nI j)) := by
            intro w
            unfold j_Mod_readNumber_206
            refine s_fail ?_
            rw [if_pos (show fI (setI x 0 16 (nI j)) 0 17 = -1 from he)]
            have er : nmEr T n k j k := by
              refine Or.inr ⟨?_, ?_, ?_, rfl⟩
              · unfold nmD; rw [hK]; exact d
              · rw [hK, hr]
              · rw [hK, hr]; exact w
            unfold j_Mod_readNumber_211
            exact ⟨fun _ => p0 _ _ _ er, fun _ => p0 _ _ _ er⟩
          have good : ¬ nmBad T (k < n ∧ T k = 45) k1 (j, v, b) → j_Mod_readNumber_211 post (nI k) mi z (nI k1) v (if b = true then 1 else 0) (setI x 0 16 (nI j)) := by
            intro w
            unfold j_Mod_readNumber_211
            refine ⟨fun q => p1 j _ ⟨?_, ?_, ?_, ?_⟩, fun q => p1 j _ ⟨?_, ?_, ?_, ?_⟩⟩
            · unfold nmD; rw [hK]; exact d
            · rw [hK, hr]
            · rw [hK, hr]; exact w
            · rw [hK, hr, if_neg (hmi.mp q)]
            · unfold nmD; rw [hK]; exact d
            · rw [hK, hr]
            · rw [hK, hr]; exact w
            · rw [hK, hr, if_pos (Classical.byContradiction (fun u => q (hmi.mpr u)))]
          have m193 : ¬ b = true → ¬ (T k1 = 48 ∧ ((k < n ∧ T k = 45) ∨ k1 + 1 < j)) → j_Mod_readNumber_193 post (nI k) mi z (nI k1) v (if b = true then 1 else 0) (setI x 0 16 (nI j)) := by
            intro w1 w2
            unfold j_Mod_readNumber_193
            refine ⟨fun q => good ?_, fun q => ⟨fun q2 => good ?_, fun q2 => bad (Or.inr (Or.inr ⟨hmi.mp q, (lg_cmp_eq _ _).mp q2⟩))⟩⟩
            · rintro (u | u | u)
              · exact w1 u
              · exact w2 u
              · exact q (hmi.mpr u.1)
            · rintro (u | u | u)
              · exact w1 u
              · exact w2 u
              · exact q2 ((lg_cmp_eq _ _).mpr u.2)
          by_cases cb : b = true
          · exact bn_f (by rw [if_pos cb]; decide) (bad (Or.inl cb))
          · refine bn_t (by rw [if_neg cb]) ⟨fun q => m193 cb (fun w => hz.mp q w.1), fun q => ⟨fun q2 => bad (Or.inr (Or.inl ⟨Classical.byContradiction (fun u => q (hz.mpr u)), Or.inl (Classical.byContradiction (fun u => q2 (hmi.mpr u)))⟩)), fun q2 => ⟨fun q3 => bad (Or.inr (Or.inl ⟨Classical.byContradiction (fun u => q (hz.mpr u)), Or.inr ?_⟩)), fun q3 => m193 cb (fun w => ?_)⟩⟩⟩
            · have q3 : nI k1 + 1 < nI j := q3
              rw [nI_1] at q3
              exact (nI_ltI (by omega) (by omega)).mp q3
            · rcases w.2 with u | u
              · exact hmi.mp q2 u
              · refine q3 ?_
                show nI k1 + 1 < nI j
                rw [nI_1]
                exact (nI_ltI (by omega) (by omega)).mpr u
      exact ⟨fun q => go 0 ⟨fun _ => q, fun _ => rfl⟩, fun q => go 1 ⟨fun u => absurd u (by decide), fun u => absurd q u⟩⟩
    · have e0 : (if dgt (if k1 < n then T k1 else -1) then (1 : Int32) else 0) = 0 := by
        rw [if_neg]
        by_cases c2 : k1 < n
        · rw [if_pos c2]; exact fun w => d ⟨c2, w⟩
        · rw [if_neg c2]; decide
      rw [e0]
      refine bn_t rfl ?_
      have fl : ∀ e v, e = (if k1 = n then n else k) → v = nI e → j_Mod_readNumber_64 post (nI k) mi v (setI x 0 16 (nI k1)) := by
        intro e v h1 h2
        unfold j_Mod_readNumber_64
        refine s_fail ?_
        rw [if_pos (show fI (setI x 0 16 (nI k1)) 0 17 = -1 from he), h2]
        refine p0 _ _ _ (Or.inl ⟨?_, hK.symm, by rw [hK]; exact h1⟩)
        unfold nmD
        rw [hK]
        exact d
      rw [show fI (setI x 0 16 (nI k1)) 0 16 = nI k1 from rfl, show fI (setI x 0 16 (nI k1)) 0 15 = nI n from h.1]
      refine ⟨fun q => fl k _ ?_ rfl, fun q => fl n _ ?_ rfl⟩
      · rw [if_neg (fun u => q (by rw [u]))]
      · rw [if_pos ((nI_eq (by omega) (by omega)).mp q)]
  unfold wp_Mod_readNumber
  refine nm_r (e' := nI k) hk (s_look h hk (by omega) ?_)
  unfold j_Mod_readNumber_19
  by_cases c : k < n ∧ T k = 45
  · rw [if_pos c.1]
    refine bn_t c.2 (br_f (by decide) (nm_r (e' := setI x 0 16 (nI (k + 1))) (by rw [hk, nI_1]) ?_))
    have eK : nmK T n k = k + 1 := by unfold nmK; rw [if_pos c]
    have m := main 1 ⟨fun u => absurd u (by decide), fun u => absurd c u⟩ (by rw [eK]; omega)
    rw [eK] at m
    exact m
  · have eK : nmK T n k = k := by unfold nmK; rw [if_neg c]
    have m := main 0 ⟨fun _ => c, fun _ => rfl⟩ (by rw [eK]; exact hb)
    rw [eK, setI_self hk] at m
    refine bn_f (fun u => ?_) (br_t rfl m)
    by_cases c2 : k < n
    · rw [if_pos c2] at u; exact c ⟨c2, u⟩
    · rw [if_neg c2] at u; exact absurd u (by decide)
