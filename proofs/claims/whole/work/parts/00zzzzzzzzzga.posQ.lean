/-! what a query's grammar keeps -/
/-- a literal that may stand beside a column of a type -/
def litC (ty : Int32) (l : QLt) : Prop := (l.1 = ty ∨ l.1 = 2 ∧ ty = 1) ∧ okT l.2.2
section
variable {T : Nat → Int32} {n : Nat} {F : List SFd} {Q : Qy} {r : QR}
theorem qPut_w {ty got : Int32} {v : Int64} {bs : List Int32} {kb k : Nat} (hb : kb < 2 ^ 31) (hs : okT bs) (h : (qPut ty got v bs kb k Q).1 = -1) : ∃ l, qPut ty got v bs kb k Q = (-1, k, (Q.1, Q.2.1, Q.2.2.1, Q.2.2.2 ++ [l])) ∧ litC ty l := by
  unfold qPut at h ⊢
  by_cases c : ¬ (got = ty ∨ got = 2 ∧ ty = 1) ∨ Q.2.2.2.length = 64
  · rw [if_pos c] at h
    exact absurd h (nI_nm1 hb)
  · rw [if_neg c]
    exact ⟨_, rfl, Decidable.byContradiction (fun q => c (Or.inl q)), hs⟩
theorem qLit_w {ty : Int32} {k : Nat} (hn : n < 2 ^ 31) (hk : k ≤ n) (h : (qLit T n ty k Q).1 = -1) : ∃ k' l, qLit T n ty k Q = (-1, k', (Q.1, Q.2.1, Q.2.2.1, Q.2.2.2 ++ [l])) ∧ litC ty l ∧ k < k' ∧ k' ≤ n := by
  have sl := @skip_le T n k hk
  have sg := skip_ge T n k
  unfold qLit at h ⊢
  by_cases c1 : isWd T n (skip T n k) [116, 114, 117, 101]
  · rw [if_pos c1] at h ⊢
    obtain ⟨l, e, hl⟩ := qPut_w (by omega) okT_nil h
    have := isWd_le sl c1
    exact ⟨_, l, e, hl, by omega, this⟩
  · rw [if_neg c1] at h ⊢
    by_cases c2 : isWd T n (skip T n k) [102, 97, 108, 115, 101]
    · rw [if_pos c2] at h ⊢
      obtain ⟨l, e, hl⟩ := qPut_w (by omega) okT_nil h
      have := isWd_le sl c2
      exact ⟨_, l, e, hl, by omega, this⟩
    · rw [if_neg c2] at h ⊢
      by_cases c3 : skip T n k < n ∧ T (skip T n k) = 39
      · rw [if_pos c3] at h ⊢
        by_cases c4 : (qtO T n (skip T n k + 1) []).1 = -1
        · rw [if_pos c4] at h ⊢
          obtain ⟨q1, q2⟩ := qtR_ok hn _ (skip T n k + 1) [] okT_nil c4
          have q3 := qtR_le hn _ (skip T n k + 1) [] c3.1 c4
          obtain ⟨l, e, hl⟩ := qPut_w (by omega) (show okT (qtO T n (skip T n k + 1) []).2.2 from q1) h
          refine ⟨_, l, e, hl, ?_, q3⟩
          have q2 : (qtO T n (skip T n k + 1) []).2.2.length + (skip T n k + 1) ≤ (qtO T n (skip T n k + 1) []).2.1 + 0 := q2
          omega
        · rw [if_neg c4] at h; exact absurd h c4
      · rw [if_neg c3] at h ⊢
        by_cases c4 : (nmF T n (skip T n k)).1 = -1
        · rw [if_pos c4] at h ⊢
          obtain ⟨l, e, hl⟩ := qPut_w (by omega) okT_nil h
          refine ⟨_, l, e, hl, ?_⟩
          have : skip T n k < (nmF T n (skip T n k)).2.1 ∧ (nmF T n (skip T n k)).2.1 ≤ n := by
            unfold nmF at c4 ⊢
            by_cases d1 : ¬ (nmK T n (skip T n k) < n ∧ dgt (T (nmK T n (skip T n k))))
            · rw [if_pos d1] at c4
              refine absurd c4 (nI_nm1 ?_)
              split <;> omega
            · rw [if_neg d1] at c4 ⊢
              have d1 := Decidable.not_not.mp d1
              have g1 := dgO_pos (v := 0) (b := false) d1
              have g2 := (dgO_le (T := T) (v := 0) (b := false) (Nat.le_of_lt d1.1)).2
              have g3 : skip T n k ≤ nmK T n (skip T n k) := by unfold nmK; split <;> omega
              split
              · rename_i d2
                rw [if_pos d2] at c4
                exact absurd c4 (nI_nm1 (by omega))
              · exact ⟨by show skip T n k < (dgO T n (nmK T n (skip T n k)) 0 false).1; omega, g2⟩
          exact ⟨by omega, this.2⟩
        · rw [if_neg c4] at h; exact absurd h c4
theorem qSgn_q {c : Int32} (h : (qSgn T n c r).1 = -1) (hn : n < 2 ^ 31) (hk : r.2.1 ≤ n) : r.1 = -1 ∧ qSgn T n c r = (-1, skip T n r.2.1 + 1, r.2.2) ∧ skip T n r.2.1 < n := by
  unfold qSgn at h ⊢
  have sl := @skip_le T n r.2.1 hk
  by_cases d : r.1 = -1
  · rw [if_neg (fun q => q d)] at h ⊢
    by_cases e : skip T n r.2.1 < n ∧ T (skip T n r.2.1) = c
    · rw [if_pos e]; exact ⟨d, rfl, e.1⟩
    · rw [if_neg e] at h; exact absurd h (nI_nm1 (by omega))
  · rw [if_pos d] at h; exact absurd h d
theorem qWrd_q {w : List Nat} (h : (qWrd T n w r).1 = -1) (hn : n < 2 ^ 31) (hk : r.2.1 ≤ n) : r.1 = -1 ∧ qWrd T n w r = (-1, skip T n r.2.1 + w.length, r.2.2) ∧ isWd T n (skip T n r.2.1) w := by
  unfold qWrd at h ⊢
  have sl := @skip_le T n r.2.1 hk
  by_cases d : r.1 = -1
  · rw [if_neg (fun q => q d)] at h ⊢
    by_cases e : isWd T n (skip T n r.2.1) w
    · rw [if_pos e]; exact ⟨d, rfl, e⟩
    · rw [if_neg e] at h; exact absurd h (nI_nm1 (by omega))
  · rw [if_pos d] at h; exact absurd h d
theorem qAdd_q {q : Nat} {l : QSt} (hq : q < 2 ^ 31) (h : (qAdd q l r).1 = -1) : r.1 = -1 ∧ qAdd q l r = (-1, r.2.1, (r.2.2.1, r.2.2.2.1, r.2.2.2.2.1 ++ [l], r.2.2.2.2.2)) := by
  unfold qAdd at h ⊢
  by_cases d : r.1 = -1
  · rw [if_neg (fun q => q d)] at h ⊢
    by_cases e : r.2.2.2.2.1.length = 64
    · rw [if_pos e] at h; exact absurd h (nI_nm1 hq)
    · rw [if_neg e]; exact ⟨d, rfl⟩
  · rw [if_pos d] at h; exact absurd h d
theorem qSgn_b {c : Int32} (h : ¬ r.1 = -1) : qSgn T n c r = r := by unfold qSgn; rw [if_pos h]
theorem qAdd_b {q : Nat} {l : QSt} (h : ¬ r.1 = -1) : qAdd q l r = r := by unfold qAdd; rw [if_pos h]
theorem qBd_b {f : Nat → Qy → QR} (h : ¬ r.1 = -1) : qBd r f = r := by unfold qBd; rw [if_neg h]
theorem qBd_g {f : Nat → Qy → QR} (h : r.1 = -1) : qBd r f = f r.2.1 r.2.2 := by unfold qBd; rw [if_pos h]
theorem qBd_q {f : Nat → Qy → QR} (h : (qBd r f).1 = -1) : r.1 = -1 ∧ qBd r f = f r.2.1 r.2.2 := by
  by_cases c : r.1 = -1
  · exact ⟨c, qBd_g c⟩
  · rw [qBd_b c] at h; exact absurd h c
theorem qLst_w {ty : Int32} (hn : n < 2 ^ 31) : ∀ d k Q, k ≤ n → (qLst T n ty d k Q).1 = -1 → ∃ k' L, qLst T n ty d k Q = (-1, k', (Q.1, Q.2.1, Q.2.2.1, Q.2.2.2 ++ L)) ∧ (∀ l, l ∈ L → litC ty l) ∧ k < k' ∧ k' ≤ n := by
  intro d
  induction d with
  | zero => intro k Q _ h; exact absurd h (by show ¬ (-3 : Int32) = -1; decide)
  | succ d ih =>
    intro k Q hk
    have sl := @skip_le T n k hk
    have sg := skip_ge T n k
    unfold qLst
    by_cases c : skip T n k < n ∧ T (skip T n k) = 44
    · rw [if_pos c]
      intro h
      obtain ⟨h1, h2⟩ := qBd_q h
      obtain ⟨k1, l, e1, hl, k2, k3⟩ := qLit_w hn (show skip T n k + 1 ≤ n from c.1) h1
      rw [h2] at h ⊢
      rw [e1] at h ⊢
      obtain ⟨k4, L, e2, hL, k5, k6⟩ := ih _ _ k3 h
      refine ⟨k4, l :: L, ?_, fun l' hl' => ?_, by omega, k6⟩
      · refine e2.trans ?_
        show (_, _, _, _, _, (Q.2.2.2 ++ [l]) ++ L) = _
        rw [List.append_assoc]
        rfl
      · rcases List.mem_cons.mp hl' with q | q
        · rw [q]; exact hl
        · exact hL l' q
    · rw [if_neg c]
      intro h
      obtain ⟨-, e, k1⟩ := qSgn_q h hn (show skip T n k ≤ n from sl)
      have k1 : skip T n (skip T n k) < n := k1
      have e : qSgn T n 41 (-1, skip T n k, Q) = (-1, skip T n (skip T n k) + 1, Q) := e
      rw [skip_skip] at k1 e
      exact ⟨_, [], by rw [e, List.append_nil], fun l hl => absurd hl (List.not_mem_nil), by omega, k1⟩
theorem qOp_w {k : Nat} (hn : n < 2 ^ 31) (hk : k ≤ n) (h : (qOp T n k).1 = -1) : (qOp T n k).2.2 ≤ 5 ∧ k < (qOp T n k).2.1 ∧ (qOp T n k).2.1 ≤ n := by
  have sl := @skip_le T n k hk
  have sg := skip_ge T n k
  unfold qOp at h ⊢
  by_cases c : skip T n k < n
  · rw [if_neg (fun q => q c)] at h ⊢
    by_cases c1 : T (skip T n k) = 61
    · rw [if_pos c1]; exact ⟨by show 0 ≤ 5; decide, by show k < skip T n k + 1; omega, c⟩
    · rw [if_neg c1] at h ⊢
      by_cases c2 : T (skip T n k) = 60
      · rw [if_pos c2]
        by_cases d1 : skip T n k + 1 < n ∧ T (skip T n k + 1) = 62
        · rw [if_pos d1]; exact ⟨by show 1 ≤ 5; decide, by show k < skip T n k + 2; omega, by show skip T n k + 2 ≤ n; omega⟩
        · rw [if_neg d1]
          by_cases d2 : skip T n k + 1 < n ∧ T (skip T n k + 1) = 61
          · rw [if_pos d2]; exact ⟨by show 3 ≤ 5; decide, by show k < skip T n k + 2; omega, by show skip T n k + 2 ≤ n; omega⟩
          · rw [if_neg d2]; exact ⟨by show 2 ≤ 5; decide, by show k < skip T n k + 1; omega, c⟩
      · rw [if_neg c2] at h ⊢
        by_cases c3 : T (skip T n k) = 62
        · rw [if_pos c3]
          by_cases d2 : skip T n k + 1 < n ∧ T (skip T n k + 1) = 61
          · rw [if_pos d2]; exact ⟨by show 5 ≤ 5; decide, by show k < skip T n k + 2; omega, by show skip T n k + 2 ≤ n; omega⟩
          · rw [if_neg d2]; exact ⟨by show 4 ≤ 5; decide, by show k < skip T n k + 1; omega, c⟩
        · rw [if_neg c3] at h; exact absurd h (nI_nm1 (by omega))
  · rw [if_pos c] at h; exact absurd h (nI_nm1 (by omega))
end
