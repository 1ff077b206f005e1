/-! pages of flat columns; stretches; what is passed over -/
def pgI : List PgW → Nat → Nat
  | [], _ => 0
  | g :: X, j => if j < g.1.length then 0 else pgI X (j - g.1.length) + 1
def pgA (X : List PgW) (j : Nat) : PgW := X.getD (pgI X j) ([], [])
def pgE (X : List PgW) (j : Nat) : Nat := (ckC (X.take (pgI X j + 1))).length
theorem ckC_cons {g : PgW} {X : List PgW} : ckC (g :: X) = g.1 ++ ckC X := rfl
theorem pgI_0 {g : PgW} {X : List PgW} {j : Nat} (h : j < g.1.length) : pgI (g :: X) j = 0 ∧ pgE (g :: X) j = g.1.length ∧ pgA (g :: X) j = g := by
  have e : pgI (g :: X) j = 0 := by
    show (if j < g.1.length then 0 else _) = _
    rw [if_pos h]
  refine ⟨e, ?_, ?_⟩
  · unfold pgE
    rw [e]
    show (ckC [g]).length = _
    rw [ckC_cons, List.length_append]
    rfl
  · unfold pgA
    rw [e]
    rfl
theorem pgI_1 {g : PgW} {X : List PgW} {j : Nat} (h : ¬ j < g.1.length) : pgI (g :: X) j = pgI X (j - g.1.length) + 1 ∧ pgE (g :: X) j = g.1.length + pgE X (j - g.1.length) ∧ pgA (g :: X) j = pgA X (j - g.1.length) := by
  have e : pgI (g :: X) j = pgI X (j - g.1.length) + 1 := by
    show (if j < g.1.length then 0 else _) = _
    rw [if_neg h]
  refine ⟨e, ?_, ?_⟩
  · unfold pgE
    rw [e]
    show (ckC (g :: X.take _)).length = _
    rw [ckC_cons, List.length_append]
  · unfold pgA
    rw [e]
    rfl
theorem pgI_ok : ∀ {X : List PgW} {j : Nat}, j < (ckC X).length → pgI X j < X.length ∧ (ckC (X.take (pgI X j))).length ≤ j ∧ j < pgE X j ∧ pgE X j ≤ (ckC X).length
  | [], _, h => absurd h (Nat.not_lt_zero _)
  | g :: X, j, h => by
    rw [ckC_cons, List.length_append] at h
    by_cases c : j < g.1.length
    · obtain ⟨e1, e2, -⟩ := pgI_0 (X := X) c
      rw [e1, e2, ckC_cons, List.length_append]
      exact ⟨Nat.zero_lt_succ _, Nat.zero_le _, c, Nat.le_add_right _ _⟩
    · obtain ⟨e1, e2, -⟩ := pgI_1 (X := X) c
      obtain ⟨h1, h2, h3, h4⟩ := pgI_ok (X := X) (j := j - g.1.length) (by omega)
      rw [e1, e2, ckC_cons, List.length_append]
      refine ⟨Nat.succ_lt_succ h1, ?_, by omega, by omega⟩
      show (ckC (g :: X.take _)).length ≤ j
      rw [ckC_cons, List.length_append]
      omega
theorem pgI_same : ∀ {X : List PgW} {j i : Nat}, j ≤ i → i < pgE X j → j < (ckC X).length → pgI X i = pgI X j
  | [], _, _, _, _, h => absurd h (Nat.not_lt_zero _)
  | g :: X, j, i, h1, h2, h => by
    rw [ckC_cons, List.length_append] at h
    by_cases c : j < g.1.length
    · obtain ⟨e1, e2, -⟩ := pgI_0 (X := X) c
      rw [e2] at h2
      rw [e1, (pgI_0 (X := X) h2).1]
    · obtain ⟨e1, e2, -⟩ := pgI_1 (X := X) c
      rw [e2] at h2
      rw [e1, (pgI_1 (X := X) (j := i) (by omega)).1, pgI_same (X := X) (j := j - g.1.length) (i := i - g.1.length) (by omega) (by omega) (by omega)]
theorem pgI_next : ∀ {X : List PgW} {j : Nat}, (∀ k, k < X.length → (X.getD k ([], [])).1 ≠ []) → j < (ckC X).length → pgE X j < (ckC X).length → pgI X (pgE X j) = pgI X j + 1
  | [], _, _, h, _ => absurd h (Nat.not_lt_zero _)
  | g :: X, j, hn, h, h2 => by
    rw [ckC_cons, List.length_append] at h h2
    have hX : ∀ k, k < X.length → (X.getD k ([], [])).1 ≠ [] := fun k hk => hn (k + 1) (Nat.succ_lt_succ hk)
    by_cases c : j < g.1.length
    · obtain ⟨e1, e2, -⟩ := pgI_0 (X := X) c
      rw [e2] at h2 ⊢
      rw [e1, (pgI_1 (X := X) (j := g.1.length) (by omega)).1, Nat.sub_self]
      match X, hX, h2 with
      | [], _, h2 => exact absurd h2 (by show ¬ _ < _ + 0; omega)
      | u :: X, hX, _ =>
        have := hX 0 (Nat.zero_lt_succ _)
        have : u.1 ≠ [] := this
        rw [(pgI_0 (X := X) (g := u) (j := 0) (List.length_pos_iff.mpr this)).1]
    · obtain ⟨e1, e2, -⟩ := pgI_1 (X := X) c
      rw [e2] at h2 ⊢
      rw [e1, (pgI_1 (X := X) (j := g.1.length + pgE X (j - g.1.length)) (by omega)).1, Nat.add_sub_cancel_left, pgI_next hX (by omega) (by omega)]
theorem pgI_en : ∀ {X : List PgW} {j : Nat}, j < (ckC X).length → ∃ i, i < (pgA X j).1.length ∧ (ckC X).getD j en0 = (pgA X j).1.getD i en0
  | [], _, h => absurd h (Nat.not_lt_zero _)
  | g :: X, j, h => by
    rw [ckC_cons, List.length_append] at h
    by_cases c : j < g.1.length
    · rw [(pgI_0 (X := X) c).2.2, ckC_cons, gD_left c]
      exact ⟨j, c, rfl⟩
    · rw [(pgI_1 (X := X) c).2.2, ckC_cons, gD_right (by omega)]
      exact pgI_en (X := X) (by omega)
/-- what pages tell, what chunks tell -/
def tlP (F : List SFd) (CK : List (List PgW)) (g j c : Nat) : Tl := tlE F c (pgA (CK.getD (ncol F * g + c) []) j).1 (pgA (CK.getD (ncol F * g + c) []) j).2
def tlK (F : List SFd) (CK : List (List PgW)) (g c : Nat) : Tl := tlE F c (ckG F CK g c) []
/-- where a stretch ends, by the first columns -/
def mnE (F : List SFd) (E : List QSt) (CK : List (List PgW)) (g n j : Nat) : Nat → Nat
  | 0 => n
  | c + 1 => if askB F E c = true then min (mnE F E CK g n j c) (pgE (CK.getD (ncol F * g + c) []) j) else mnE F E CK g n j c
/-- can the condition be true? -/
def canQ (F : List SFd) (Q : Qy) (τ : Nat → Tl) : Bool := tB3 (cnd (canS F Q.2.2.2 τ) Q.2.2.1)
/-- how many stretches are passed over -/
def skS (F : List SFd) (Q : Qy) (CK : List (List PgW)) (g n : Nat) : Nat → Nat → Nat
  | 0, _ => 0
  | m + 1, j => if n ≤ j then 0 else (if canQ F Q (tlP F CK g j) = true then 0 else 1) + skS F Q CK g n m (mnE F Q.2.2.1 CK g n j (ncol F))
/-- groups, stretches that are passed over -/
def skA (F : List SFd) (Q : Qy) (G : List Nat) (CK : List (List PgW)) : Nat → Nat × Nat
  | 0 => (0, 0)
  | g + 1 => if canQ F Q (tlK F CK g) = true then ((skA F Q G CK g).1, (skA F Q G CK g).2 + skS F Q CK g (G.getD g 0) (G.getD g 0) 0) else ((skA F Q G CK g).1 + 1, (skA F Q G CK g).2)
/-- a column that is asked -/
def AsC (F : List SFd) (Q : Qy) (f : Nat) : Prop := colF F f ∧ ∃ t, t ∈ Q.2.2.1 ∧ (¬ 5 ≤ t.1 ∧ t.2.1 = nI f ∨ t.1 = 4 ∧ t.2.2.2.1 = nI f)
section
variable {F : List SFd} {G : List Nat} {CK : List (List PgW)} {Q : Qy} {g j : Nat}
theorem AsC.ask (hw : WfS F) {f : Nat} (h : AsC F Q f) : askB F Q.2.2.1 (ncol (F.take f)) = true := by
  have hF := hw.1
  obtain ⟨hf, t, ht, h2⟩ := h
  have f31 : f < 2 ^ 31 := by have := hf.1; omega
  unfold askB
  rw [List.any_eq_true]
  refine ⟨t, ht, ?_⟩
  unfold askS
  rw [Bool.or_eq_true]
  rcases h2 with ⟨z1, z2⟩ | ⟨z1, z2⟩
  · exact Or.inl (decide_eq_true ⟨z1, by rw [z2, cOf_n f31]⟩)
  · exact Or.inr (decide_eq_true ⟨z1, by rw [z2, cOf_n f31]⟩)
theorem ask_AsC (hw : WfS F) (hW : QyW F Q) {c : Nat} (h : askB F Q.2.2.1 c = true) : ∃ f, AsC F Q f ∧ ncol (F.take f) = c := by
  have hF := hw.1
  unfold askB at h
  rw [List.any_eq_true] at h
  obtain ⟨t, ht, h⟩ := h
  unfold askS at h
  rw [Bool.or_eq_true] at h
  obtain ⟨s1, s2, -⟩ := stW_f (hW.2.2.2.1 t ht)
  rcases h with h | h
  · obtain ⟨z1, z2⟩ := of_decide_eq_true h
    obtain ⟨f, hf, e⟩ := s1 z1
    rw [e, cOf_n (by have := hf.1; omega)] at z2
    exact ⟨f, ⟨hf, t, ht, Or.inl ⟨z1, e⟩⟩, z2⟩
  · obtain ⟨z1, z2⟩ := of_decide_eq_true h
    obtain ⟨f, hf, e⟩ := s2 z1
    rw [e, cOf_n (by have := hf.1; omega)] at z2
    exact ⟨f, ⟨hf, t, ht, Or.inr ⟨z1, e⟩⟩, z2⟩
/-- a row whose condition is true: it can be true -/
theorem hit_can (hw : WfS F) (hW : QyW F Q) (hL : Q.2.2.2.length < 2 ^ 31) {τ : Nat → Tl} {v : Nat → Option PV} (hτ : ∀ f, AsC F Q f → RwT (tOf F (nI f)) (τ (ncol (F.take f))) (v (ncol (F.take f)))) (hty : ∀ f d t, colF F f → colF F d → t ∈ Q.2.2.1 → t.1 = 4 → t.2.1 = nI f → t.2.2.2.1 = nI d → RwT (tOf F (nI f)) (τ (ncol (F.take d))) (v (ncol (F.take d)))) (h : cnd (tst F Q.2.2.2 v) Q.2.2.1 = 2) : canQ F Q τ = true := by
  have hF := hw.1
  have k := cnd_sub (T := tst F Q.2.2.2 v) (U := canS F Q.2.2.2 τ) (E := Q.2.2.1) (fun t ht n5 n6 n7 => ?_)
  · rw [h] at k
    exact k.2.1 rfl
  · have hs := hW.2.2.2.1 t ht
    obtain ⟨s1, s2, s3, s4⟩ := stW_f hs
    have t5 : ¬ 5 ≤ t.1 := by
      intro z
      rcases hs with ⟨f, _, e | e⟩ | ⟨f, a, m, _, _, _, _, e⟩ | ⟨f, op, a, _, _, _, _, e⟩ | ⟨f, op, d, _, _, _, _, e⟩ | e | e | e
      · rw [e] at z; exact absurd z (by show ¬ (5 : Int32) ≤ 0; decide)
      · rw [e] at z; exact absurd z (by show ¬ (5 : Int32) ≤ 1; decide)
      · rw [e] at z; exact absurd z (by show ¬ (5 : Int32) ≤ 2; decide)
      · rw [e] at z; exact absurd z (by show ¬ (5 : Int32) ≤ 3; decide)
      · rw [e] at z; exact absurd z (by show ¬ (5 : Int32) ≤ 4; decide)
      · rw [e] at n5; exact n5 rfl
      · rw [e] at n6; exact n6 rfl
      · rw [e] at n7; exact n7 rfl
    obtain ⟨f, hf, e⟩ := s1 t5
    have f31 : f < 2 ^ 31 := by have := hf.1; omega
    refine tst_sub hs n5 n6 n7 ?_ (fun z4 => ?_) hL
    · rw [e, cOf_n f31]
      exact hτ f ⟨hf, t, ht, Or.inl ⟨t5, e⟩⟩
    · obtain ⟨d, hd, e2⟩ := s2 z4
      rw [e, e2, cOf_n (by have := hd.1; omega)]
      exact hty f d t hf hd ht z4 e e2
end
