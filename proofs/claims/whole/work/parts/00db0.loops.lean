theorem lp_Mod_feed_22 {post : Int32 → St → Prop} (I : Int32 → Int32 → Int32 → Int32 → Int32 → Int32 → St → Prop) (m : Int32 → Int32 → Int32 → Int32 → Int32 → Int32 → St → Nat)
    (step : ∀ (R : Int32 → Int32 → Int32 → Int32 → Int32 → Int32 → St → Prop) (a0 : Int32) (a1 : Int32) (a2 : Int32) (a3 : Int32) (a4 : Int32) (a5 : Int32) (a6 : St), I a0 a1 a2 a3 a4 a5 a6 → (∀ (b0 : Int32) (b1 : Int32) (b2 : Int32) (b3 : Int32) (b4 : Int32) (b5 : Int32) (b6 : St), I b0 b1 b2 b3 b4 b5 b6 → m b0 b1 b2 b3 b4 b5 b6 < m a0 a1 a2 a3 a4 a5 a6 → R b0 b1 b2 b3 b4 b5 b6) → j_Mod_feed_22 post R a0 a1 a2 a3 a4 a5 a6) :
    ∀ (a0 : Int32) (a1 : Int32) (a2 : Int32) (a3 : Int32) (a4 : Int32) (a5 : Int32) (a6 : St), I a0 a1 a2 a3 a4 a5 a6 → ∃ n : Nat, wl_Mod_feed_22 post n a0 a1 a2 a3 a4 a5 a6 := by
  have key : ∀ (n : Nat) (a0 : Int32) (a1 : Int32) (a2 : Int32) (a3 : Int32) (a4 : Int32) (a5 : Int32) (a6 : St), I a0 a1 a2 a3 a4 a5 a6 → m a0 a1 a2 a3 a4 a5 a6 < n → wl_Mod_feed_22 post n a0 a1 a2 a3 a4 a5 a6 := by
    intro n
    induction n with
    | zero => intro a0 a1 a2 a3 a4 a5 a6 _ h; exact absurd h (Nat.not_lt_zero _)
    | succ n ih => intro a0 a1 a2 a3 a4 a5 a6 h hm; exact step (wl_Mod_feed_22 post n) a0 a1 a2 a3 a4 a5 a6 h (fun b0 b1 b2 b3 b4 b5 b6 hb hlt => ih b0 b1 b2 b3 b4 b5 b6 hb (Nat.lt_of_lt_of_le hlt (Nat.le_of_lt_succ hm)))
  exact fun a0 a1 a2 a3 a4 a5 a6 h => ⟨_, key _ a0 a1 a2 a3 a4 a5 a6 h (Nat.lt_succ_self _)⟩
theorem lp_Mod_end_21 {post : Int32 → St → Prop} (I : Int32 → Int32 → St → Prop) (m : Int32 → Int32 → St → Nat)
    (step : ∀ (R : Int32 → Int32 → St → Prop) (a0 : Int32) (a1 : Int32) (a2 : St), I a0 a1 a2 → (∀ (b0 : Int32) (b1 : Int32) (b2 : St), I b0 b1 b2 → m b0 b1 b2 < m a0 a1 a2 → R b0 b1 b2) → j_Mod_end_21 post R a0 a1 a2) :
    ∀ (a0 : Int32) (a1 : Int32) (a2 : St), I a0 a1 a2 → ∃ n : Nat, wl_Mod_end_21 post n a0 a1 a2 := by
  have key : ∀ (n : Nat) (a0 : Int32) (a1 : Int32) (a2 : St), I a0 a1 a2 → m a0 a1 a2 < n → wl_Mod_end_21 post n a0 a1 a2 := by
    intro n
    induction n with
    | zero => intro a0 a1 a2 _ h; exact absurd h (Nat.not_lt_zero _)
    | succ n ih => intro a0 a1 a2 h hm; exact step (wl_Mod_end_21 post n) a0 a1 a2 h (fun b0 b1 b2 hb hlt => ih b0 b1 b2 hb (Nat.lt_of_lt_of_le hlt (Nat.le_of_lt_succ hm)))
  exact fun a0 a1 a2 h => ⟨_, key _ a0 a1 a2 h (Nat.lt_succ_self _)⟩
theorem lp_Mod_blanks_0 {post : St → Prop} (I : St → Prop) (m : St → Nat)
    (step : ∀ (R : St → Prop) (a0 : St), I a0 → (∀ (b0 : St), I b0 → m b0 < m a0 → R b0) → j_Mod_blanks_0 post R a0) :
    ∀ (a0 : St), I a0 → ∃ n : Nat, wl_Mod_blanks_0 post n a0 := by
  have key : ∀ (n : Nat) (a0 : St), I a0 → m a0 < n → wl_Mod_blanks_0 post n a0 := by
    intro n
    induction n with
    | zero => intro a0 _ h; exact absurd h (Nat.not_lt_zero _)
    | succ n ih => intro a0 h hm; exact step (wl_Mod_blanks_0 post n) a0 h (fun b0 hb hlt => ih b0 hb (Nat.lt_of_lt_of_le hlt (Nat.le_of_lt_succ hm)))
  exact fun a0 h => ⟨_, key _ a0 h (Nat.lt_succ_self _)⟩
theorem lp_Mod_wordAt_2 {post : Int32 → St → Prop} (I : Int32 → Int32 → St → Prop) (m : Int32 → Int32 → St → Nat)
    (step : ∀ (R : Int32 → Int32 → St → Prop) (a0 : Int32) (a1 : Int32) (a2 : St), I a0 a1 a2 → (∀ (b0 : Int32) (b1 : Int32) (b2 : St), I b0 b1 b2 → m b0 b1 b2 < m a0 a1 a2 → R b0 b1 b2) → j_Mod_wordAt_2 post R a0 a1 a2) :
    ∀ (a0 : Int32) (a1 : Int32) (a2 : St), I a0 a1 a2 → ∃ n : Nat, wl_Mod_wordAt_2 post n a0 a1 a2 := by
  have key : ∀ (n : Nat) (a0 : Int32) (a1 : Int32) (a2 : St), I a0 a1 a2 → m a0 a1 a2 < n → wl_Mod_wordAt_2 post n a0 a1 a2 := by
    intro n
    induction n with
    | zero => intro a0 a1 a2 _ h; exact absurd h (Nat.not_lt_zero _)
    | succ n ih => intro a0 a1 a2 h hm; exact step (wl_Mod_wordAt_2 post n) a0 a1 a2 h (fun b0 b1 b2 hb hlt => ih b0 b1 b2 hb (Nat.lt_of_lt_of_le hlt (Nat.le_of_lt_succ hm)))
  exact fun a0 a1 a2 h => ⟨_, key _ a0 a1 a2 h (Nat.lt_succ_self _)⟩
theorem lp_Mod_wordOf_11 {post : Int64 → St → Prop} (I : Int32 → Int32 → Int64 → Int32 → St → Prop) (m : Int32 → Int32 → Int64 → Int32 → St → Nat)
    (step : ∀ (R : Int32 → Int32 → Int64 → Int32 → St → Prop) (a0 : Int32) (a1 : Int32) (a2 : Int64) (a3 : Int32) (a4 : St), I a0 a1 a2 a3 a4 → (∀ (b0 : Int32) (b1 : Int32) (b2 : Int64) (b3 : Int32) (b4 : St), I b0 b1 b2 b3 b4 → m b0 b1 b2 b3 b4 < m a0 a1 a2 a3 a4 → R b0 b1 b2 b3 b4) → j_Mod_wordOf_11 post R a0 a1 a2 a3 a4) :
    ∀ (a0 : Int32) (a1 : Int32) (a2 : Int64) (a3 : Int32) (a4 : St), I a0 a1 a2 a3 a4 → ∃ n : Nat, wl_Mod_wordOf_11 post n a0 a1 a2 a3 a4 := by
  have key : ∀ (n : Nat) (a0 : Int32) (a1 : Int32) (a2 : Int64) (a3 : Int32) (a4 : St), I a0 a1 a2 a3 a4 → m a0 a1 a2 a3 a4 < n → wl_Mod_wordOf_11 post n a0 a1 a2 a3 a4 := by
    intro n
    induction n with
    | zero => intro a0 a1 a2 a3 a4 _ h; exact absurd h (Nat.not_lt_zero _)
    | succ n ih => intro a0 a1 a2 a3 a4 h hm; exact step (wl_Mod_wordOf_11 post n) a0 a1 a2 a3 a4 h (fun b0 b1 b2 b3 b4 hb hlt => ih b0 b1 b2 b3 b4 hb (Nat.lt_of_lt_of_le hlt (Nat.le_of_lt_succ hm)))
  exact fun a0 a1 a2 a3 a4 h => ⟨_, key _ a0 a1 a2 a3 a4 h (Nat.lt_succ_self _)⟩
theorem lp_Mod_deep_5 {post : Int32 → St → Prop} (I : Int32 → Int32 → Int32 → Int32 → St → Prop) (m : Int32 → Int32 → Int32 → Int32 → St → Nat)
    (step : ∀ (R : Int32 → Int32 → Int32 → Int32 → St → Prop) (a0 : Int32) (a1 : Int32) (a2 : Int32) (a3 : Int32) (a4 : St), I a0 a1 a2 a3 a4 → (∀ (b0 : Int32) (b1 : Int32) (b2 : Int32) (b3 : Int32) (b4 : St), I b0 b1 b2 b3 b4 → m b0 b1 b2 b3 b4 < m a0 a1 a2 a3 a4 → R b0 b1 b2 b3 b4) → j_Mod_deep_5 post R a0 a1 a2 a3 a4) :
    ∀ (a0 : Int32) (a1 : Int32) (a2 : Int32) (a3 : Int32) (a4 : St), I a0 a1 a2 a3 a4 → ∃ n : Nat, wl_Mod_deep_5 post n a0 a1 a2 a3 a4 := by
  have key : ∀ (n : Nat) (a0 : Int32) (a1 : Int32) (a2 : Int32) (a3 : Int32) (a4 : St), I a0 a1 a2 a3 a4 → m a0 a1 a2 a3 a4 < n → wl_Mod_deep_5 post n a0 a1 a2 a3 a4 := by
    intro n
    induction n with
    | zero => intro a0 a1 a2 a3 a4 _ h; exact absurd h (Nat.not_lt_zero _)
    | succ n ih => intro a0 a1 a2 a3 a4 h hm; exact step (wl_Mod_deep_5 post n) a0 a1 a2 a3 a4 h (fun b0 b1 b2 b3 b4 hb hlt => ih b0 b1 b2 b3 b4 hb (Nat.lt_of_lt_of_le hlt (Nat.le_of_lt_succ hm)))
  exact fun a0 a1 a2 a3 a4 h => ⟨_, key _ a0 a1 a2 a3 a4 h (Nat.lt_succ_self _)⟩
theorem lp_Mod_find_58 {post : Int32 → St → Prop} {rec6 : Int32 → Int32 → Nat → Int32 → Int32 → Int32 → Int32 → St → Prop} (I : Int32 → Int32 → Nat → Int32 → Int32 → Int32 → Int32 → Int32 → Int32 → Int32 → St → Prop) (m : Int32 → Int32 → Nat → Int32 → Int32 → Int32 → Int32 → Int32 → Int32 → Int32 → St → Nat)
    (step : ∀ (R : Int32 → Int32 → Nat → Int32 → Int32 → Int32 → Int32 → Int32 → Int32 → Int32 → St → Prop) (a0 : Int32) (a1 : Int32) (a2 : Nat) (a3 : Int32) (a4 : Int32) (a5 : Int32) (a6 : Int32) (a7 : Int32) (a8 : Int32) (a9 : Int32) (a10 : St), I a0 a1 a2 a3 a4 a5 a6 a7 a8 a9 a10 → (∀ (b0 : Int32) (b1 : Int32) (b2 : Nat) (b3 : Int32) (b4 : Int32) (b5 : Int32) (b6 : Int32) (b7 : Int32) (b8 : Int32) (b9 : Int32) (b10 : St), I b0 b1 b2 b3 b4 b5 b6 b7 b8 b9 b10 → m b0 b1 b2 b3 b4 b5 b6 b7 b8 b9 b10 < m a0 a1 a2 a3 a4 a5 a6 a7 a8 a9 a10 → R b0 b1 b2 b3 b4 b5 b6 b7 b8 b9 b10) → j_Mod_find_58 post rec6 R a0 a1 a2 a3 a4 a5 a6 a7 a8 a9 a10) :
    ∀ (a0 : Int32) (a1 : Int32) (a2 : Nat) (a3 : Int32) (a4 : Int32) (a5 : Int32) (a6 : Int32) (a7 : Int32) (a8 : Int32) (a9 : Int32) (a10 : St), I a0 a1 a2 a3 a4 a5 a6 a7 a8 a9 a10 → ∃ n : Nat, wl_Mod_find_58 post rec6 n a0 a1 a2 a3 a4 a5 a6 a7 a8 a9 a10 := by
  have key : ∀ (n : Nat) (a0 : Int32) (a1 : Int32) (a2 : Nat) (a3 : Int32) (a4 : Int32) (a5 : Int32) (a6 : Int32) (a7 : Int32) (a8 : Int32) (a9 : Int32) (a10 : St), I a0 a1 a2 a3 a4 a5 a6 a7 a8 a9 a10 → m a0 a1 a2 a3 a4 a5 a6 a7 a8 a9 a10 < n → wl_Mod_find_58 post rec6 n a0 a1 a2 a3 a4 a5 a6 a7 a8 a9 a10 := by
    intro n
    induction n with
    | zero => intro a0 a1 a2 a3 a4 a5 a6 a7 a8 a9 a10 _ h; exact absurd h (Nat.not_lt_zero _)
    | succ n ih => intro a0 a1 a2 a3 a4 a5 a6 a7 a8 a9 a10 h hm; exact step (wl_Mod_find_58 post rec6 n) a0 a1 a2 a3 a4 a5 a6 a7 a8 a9 a10 h (fun b0 b1 b2 b3 b4 b5 b6 b7 b8 b9 b10 hb hlt => ih b0 b1 b2 b3 b4 b5 b6 b7 b8 b9 b10 hb (Nat.lt_of_lt_of_le hlt (Nat.le_of_lt_succ hm)))
  exact fun a0 a1 a2 a3 a4 a5 a6 a7 a8 a9 a10 h => ⟨_, key _ a0 a1 a2 a3 a4 a5 a6 a7 a8 a9 a10 h (Nat.lt_succ_self _)⟩
theorem lp_Mod_find_6 {post : Int32 → St → Prop} (I : Int32 → Int32 → Nat → Int32 → Int32 → Int32 → Int32 → St → Prop) (m : Int32 → Int32 → Nat → Int32 → Int32 → Int32 → Int32 → St → Nat)
    (step : ∀ (R : Int32 → Int32 → Nat → Int32 → Int32 → Int32 → Int32 → St → Prop) (a0 : Int32) (a1 : Int32) (a2 : Nat) (a3 : Int32) (a4 : Int32) (a5 : Int32) (a6 : Int32) (a7 : St), I a0 a1 a2 a3 a4 a5 a6 a7 → (∀ (b0 : Int32) (b1 : Int32) (b2 : Nat) (b3 : Int32) (b4 : Int32) (b5 : Int32) (b6 : Int32) (b7 : St), I b0 b1 b2 b3 b4 b5 b6 b7 → m b0 b1 b2 b3 b4 b5 b6 b7 < m a0 a1 a2 a3 a4 a5 a6 a7 → R b0 b1 b2 b3 b4 b5 b6 b7) → j_Mod_find_6 post R a0 a1 a2 a3 a4 a5 a6 a7) :
    ∀ (a0 : Int32) (a1 : Int32) (a2 : Nat) (a3 : Int32) (a4 : Int32) (a5 : Int32) (a6 : Int32) (a7 : St), I a0 a1 a2 a3 a4 a5 a6 a7 → ∃ n : Nat, wl_Mod_find_6 post n a0 a1 a2 a3 a4 a5 a6 a7 := by
  have key : ∀ (n : Nat) (a0 : Int32) (a1 : Int32) (a2 : Nat) (a3 : Int32) (a4 : Int32) (a5 : Int32) (a6 : Int32) (a7 : St), I a0 a1 a2 a3 a4 a5 a6 a7 → m a0 a1 a2 a3 a4 a5 a6 a7 < n → wl_Mod_find_6 post n a0 a1 a2 a3 a4 a5 a6 a7 := by
    intro n
    induction n with
    | zero => intro a0 a1 a2 a3 a4 a5 a6 a7 _ h; exact absurd h (Nat.not_lt_zero _)
    | succ n ih => intro a0 a1 a2 a3 a4 a5 a6 a7 h hm; exact step (wl_Mod_find_6 post n) a0 a1 a2 a3 a4 a5 a6 a7 h (fun b0 b1 b2 b3 b4 b5 b6 b7 hb hlt => ih b0 b1 b2 b3 b4 b5 b6 b7 hb (Nat.lt_of_lt_of_le hlt (Nat.le_of_lt_succ hm)))
  exact fun a0 a1 a2 a3 a4 a5 a6 a7 h => ⟨_, key _ a0 a1 a2 a3 a4 a5 a6 a7 h (Nat.lt_succ_self _)⟩
theorem lp_Mod_addField_48 {post : St → Prop} (I : Int32 → Int32 → Int32 → Nat → Int32 → Int32 → Int32 → Int32 → St → Prop) (m : Int32 → Int32 → Int32 → Nat → Int32 → Int32 → Int32 → Int32 → St → Nat)
    (step : ∀ (R : Int32 → Int32 → Int32 → Nat → Int32 → Int32 → Int32 → Int32 → St → Prop) (a0 : Int32) (a1 : Int32) (a2 : Int32) (a3 : Nat) (a4 : Int32) (a5 : Int32) (a6 : Int32) (a7 : Int32) (a8 : St), I a0 a1 a2 a3 a4 a5 a6 a7 a8 → (∀ (b0 : Int32) (b1 : Int32) (b2 : Int32) (b3 : Nat) (b4 : Int32) (b5 : Int32) (b6 : Int32) (b7 : Int32) (b8 : St), I b0 b1 b2 b3 b4 b5 b6 b7 b8 → m b0 b1 b2 b3 b4 b5 b6 b7 b8 < m a0 a1 a2 a3 a4 a5 a6 a7 a8 → R b0 b1 b2 b3 b4 b5 b6 b7 b8) → j_Mod_addField_48 post R a0 a1 a2 a3 a4 a5 a6 a7 a8) :
    ∀ (a0 : Int32) (a1 : Int32) (a2 : Int32) (a3 : Nat) (a4 : Int32) (a5 : Int32) (a6 : Int32) (a7 : Int32) (a8 : St), I a0 a1 a2 a3 a4 a5 a6 a7 a8 → ∃ n : Nat, wl_Mod_addField_48 post n a0 a1 a2 a3 a4 a5 a6 a7 a8 := by
  have key : ∀ (n : Nat) (a0 : Int32) (a1 : Int32) (a2 : Int32) (a3 : Nat) (a4 : Int32) (a5 : Int32) (a6 : Int32) (a7 : Int32) (a8 : St), I a0 a1 a2 a3 a4 a5 a6 a7 a8 → m a0 a1 a2 a3 a4 a5 a6 a7 a8 < n → wl_Mod_addField_48 post n a0 a1 a2 a3 a4 a5 a6 a7 a8 := by
    intro n
    induction n with
    | zero => intro a0 a1 a2 a3 a4 a5 a6 a7 a8 _ h; exact absurd h (Nat.not_lt_zero _)
    | succ n ih => intro a0 a1 a2 a3 a4 a5 a6 a7 a8 h hm; exact step (wl_Mod_addField_48 post n) a0 a1 a2 a3 a4 a5 a6 a7 a8 h (fun b0 b1 b2 b3 b4 b5 b6 b7 b8 hb hlt => ih b0 b1 b2 b3 b4 b5 b6 b7 b8 hb (Nat.lt_of_lt_of_le hlt (Nat.le_of_lt_succ hm)))
  exact fun a0 a1 a2 a3 a4 a5 a6 a7 a8 h => ⟨_, key _ a0 a1 a2 a3 a4 a5 a6 a7 a8 h (Nat.lt_succ_self _)⟩
theorem lp_Mod_readField_268 {post : St → Prop} {self_Mod_readField : (St → Prop) → Int32 → St → Prop} (I : Int32 → Int32 → Int32 → Int32 → Int32 → St → Prop) (m : Int32 → Int32 → Int32 → Int32 → Int32 → St → Nat)
    (step : ∀ (R : Int32 → Int32 → Int32 → Int32 → Int32 → St → Prop) (a0 : Int32) (a1 : Int32) (a2 : Int32) (a3 : Int32) (a4 : Int32) (a5 : St), I a0 a1 a2 a3 a4 a5 → (∀ (b0 : Int32) (b1 : Int32) (b2 : Int32) (b3 : Int32) (b4 : Int32) (b5 : St), I b0 b1 b2 b3 b4 b5 → m b0 b1 b2 b3 b4 b5 < m a0 a1 a2 a3 a4 a5 → R b0 b1 b2 b3 b4 b5) → j_Mod_readField_268 post self_Mod_readField R a0 a1 a2 a3 a4 a5) :
    ∀ (a0 : Int32) (a1 : Int32) (a2 : Int32) (a3 : Int32) (a4 : Int32) (a5 : St), I a0 a1 a2 a3 a4 a5 → ∃ n : Nat, wl_Mod_readField_268 post self_Mod_readField n a0 a1 a2 a3 a4 a5 := by
  have key : ∀ (n : Nat) (a0 : Int32) (a1 : Int32) (a2 : Int32) (a3 : Int32) (a4 : Int32) (a5 : St), I a0 a1 a2 a3 a4 a5 → m a0 a1 a2 a3 a4 a5 < n → wl_Mod_readField_268 post self_Mod_readField n a0 a1 a2 a3 a4 a5 := by
    intro n
    induction n with
    | zero => intro a0 a1 a2 a3 a4 a5 _ h; exact absurd h (Nat.not_lt_zero _)
    | succ n ih => intro a0 a1 a2 a3 a4 a5 h hm; exact step (wl_Mod_readField_268 post self_Mod_readField n) a0 a1 a2 a3 a4 a5 h (fun b0 b1 b2 b3 b4 b5 hb hlt => ih b0 b1 b2 b3 b4 b5 hb (Nat.lt_of_lt_of_le hlt (Nat.le_of_lt_succ hm)))
  exact fun a0 a1 a2 a3 a4 a5 h => ⟨_, key _ a0 a1 a2 a3 a4 a5 h (Nat.lt_succ_self _)⟩
theorem lp_Mod_keepSchema_163 {post : St → Prop} (I : Int32 → Int32 → St → Prop) (m : Int32 → Int32 → St → Nat)
    (step : ∀ (R : Int32 → Int32 → St → Prop) (a0 : Int32) (a1 : Int32) (a2 : St), I a0 a1 a2 → (∀ (b0 : Int32) (b1 : Int32) (b2 : St), I b0 b1 b2 → m b0 b1 b2 < m a0 a1 a2 → R b0 b1 b2) → j_Mod_keepSchema_163 post R a0 a1 a2) :
    ∀ (a0 : Int32) (a1 : Int32) (a2 : St), I a0 a1 a2 → ∃ n : Nat, wl_Mod_keepSchema_163 post n a0 a1 a2 := by
  have key : ∀ (n : Nat) (a0 : Int32) (a1 : Int32) (a2 : St), I a0 a1 a2 → m a0 a1 a2 < n → wl_Mod_keepSchema_163 post n a0 a1 a2 := by
    intro n
    induction n with
    | zero => intro a0 a1 a2 _ h; exact absurd h (Nat.not_lt_zero _)
    | succ n ih => intro a0 a1 a2 h hm; exact step (wl_Mod_keepSchema_163 post n) a0 a1 a2 h (fun b0 b1 b2 hb hlt => ih b0 b1 b2 hb (Nat.lt_of_lt_of_le hlt (Nat.le_of_lt_succ hm)))
  exact fun a0 a1 a2 h => ⟨_, key _ a0 a1 a2 h (Nat.lt_succ_self _)⟩
theorem lp_Mod_keepSchema_117 {post : St → Prop} {rec26 : Int32 → Int32 → St → Prop} (I : Int32 → Int32 → Int32 → Int32 → Int32 → St → Prop) (m : Int32 → Int32 → Int32 → Int32 → Int32 → St → Nat)
    (step : ∀ (R : Int32 → Int32 → Int32 → Int32 → Int32 → St → Prop) (a0 : Int32) (a1 : Int32) (a2 : Int32) (a3 : Int32) (a4 : Int32) (a5 : St), I a0 a1 a2 a3 a4 a5 → (∀ (b0 : Int32) (b1 : Int32) (b2 : Int32) (b3 : Int32) (b4 : Int32) (b5 : St), I b0 b1 b2 b3 b4 b5 → m b0 b1 b2 b3 b4 b5 < m a0 a1 a2 a3 a4 a5 → R b0 b1 b2 b3 b4 b5) → j_Mod_keepSchema_117 post rec26 R a0 a1 a2 a3 a4 a5) :
    ∀ (a0 : Int32) (a1 : Int32) (a2 : Int32) (a3 : Int32) (a4 : Int32) (a5 : St), I a0 a1 a2 a3 a4 a5 → ∃ n : Nat, wl_Mod_keepSchema_117 post rec26 n a0 a1 a2 a3 a4 a5 := by
  have key : ∀ (n : Nat) (a0 : Int32) (a1 : Int32) (a2 : Int32) (a3 : Int32) (a4 : Int32) (a5 : St), I a0 a1 a2 a3 a4 a5 → m a0 a1 a2 a3 a4 a5 < n → wl_Mod_keepSchema_117 post rec26 n a0 a1 a2 a3 a4 a5 := by
    intro n
    induction n with
    | zero => intro a0 a1 a2 a3 a4 a5 _ h; exact absurd h (Nat.not_lt_zero _)
    | succ n ih => intro a0 a1 a2 a3 a4 a5 h hm; exact step (wl_Mod_keepSchema_117 post rec26 n) a0 a1 a2 a3 a4 a5 h (fun b0 b1 b2 b3 b4 b5 hb hlt => ih b0 b1 b2 b3 b4 b5 hb (Nat.lt_of_lt_of_le hlt (Nat.le_of_lt_succ hm)))
  exact fun a0 a1 a2 a3 a4 a5 h => ⟨_, key _ a0 a1 a2 a3 a4 a5 h (Nat.lt_succ_self _)⟩
theorem lp_Mod_keepSchema_26 {post : St → Prop} (I : Int32 → Int32 → St → Prop) (m : Int32 → Int32 → St → Nat)
    (step : ∀ (R : Int32 → Int32 → St → Prop) (a0 : Int32) (a1 : Int32) (a2 : St), I a0 a1 a2 → (∀ (b0 : Int32) (b1 : Int32) (b2 : St), I b0 b1 b2 → m b0 b1 b2 < m a0 a1 a2 → R b0 b1 b2) → j_Mod_keepSchema_26 post R a0 a1 a2) :
    ∀ (a0 : Int32) (a1 : Int32) (a2 : St), I a0 a1 a2 → ∃ n : Nat, wl_Mod_keepSchema_26 post n a0 a1 a2 := by
  have key : ∀ (n : Nat) (a0 : Int32) (a1 : Int32) (a2 : St), I a0 a1 a2 → m a0 a1 a2 < n → wl_Mod_keepSchema_26 post n a0 a1 a2 := by
    intro n
    induction n with
    | zero => intro a0 a1 a2 _ h; exact absurd h (Nat.not_lt_zero _)
    | succ n ih => intro a0 a1 a2 h hm; exact step (wl_Mod_keepSchema_26 post n) a0 a1 a2 h (fun b0 b1 b2 hb hlt => ih b0 b1 b2 hb (Nat.lt_of_lt_of_le hlt (Nat.le_of_lt_succ hm)))
  exact fun a0 a1 a2 h => ⟨_, key _ a0 a1 a2 h (Nat.lt_succ_self _)⟩
theorem lp_Mod_schema_37 {post : Int32 → St → Prop} (I : St → Prop) (m : St → Nat)
    (step : ∀ (R : St → Prop) (a0 : St), I a0 → (∀ (b0 : St), I b0 → m b0 < m a0 → R b0) → j_Mod_schema_37 post R a0) :
    ∀ (a0 : St), I a0 → ∃ n : Nat, wl_Mod_schema_37 post n a0 := by
  have key : ∀ (n : Nat) (a0 : St), I a0 → m a0 < n → wl_Mod_schema_37 post n a0 := by
    intro n
    induction n with
    | zero => intro a0 _ h; exact absurd h (Nat.not_lt_zero _)
    | succ n ih => intro a0 h hm; exact step (wl_Mod_schema_37 post n) a0 h (fun b0 hb hlt => ih b0 hb (Nat.lt_of_lt_of_le hlt (Nat.le_of_lt_succ hm)))
  exact fun a0 h => ⟨_, key _ a0 h (Nat.lt_succ_self _)⟩
theorem lp_Mod_misses_6 {post : Int32 → St → Prop} (I : Int32 → Int32 → Int32 → Int32 → Int32 → St → Prop) (m : Int32 → Int32 → Int32 → Int32 → Int32 → St → Nat)
    (step : ∀ (R : Int32 → Int32 → Int32 → Int32 → Int32 → St → Prop) (a0 : Int32) (a1 : Int32) (a2 : Int32) (a3 : Int32) (a4 : Int32) (a5 : St), I a0 a1 a2 a3 a4 a5 → (∀ (b0 : Int32) (b1 : Int32) (b2 : Int32) (b3 : Int32) (b4 : Int32) (b5 : St), I b0 b1 b2 b3 b4 b5 → m b0 b1 b2 b3 b4 b5 < m a0 a1 a2 a3 a4 a5 → R b0 b1 b2 b3 b4 b5) → j_Mod_misses_6 post R a0 a1 a2 a3 a4 a5) :
    ∀ (a0 : Int32) (a1 : Int32) (a2 : Int32) (a3 : Int32) (a4 : Int32) (a5 : St), I a0 a1 a2 a3 a4 a5 → ∃ n : Nat, wl_Mod_misses_6 post n a0 a1 a2 a3 a4 a5 := by
  have key : ∀ (n : Nat) (a0 : Int32) (a1 : Int32) (a2 : Int32) (a3 : Int32) (a4 : Int32) (a5 : St), I a0 a1 a2 a3 a4 a5 → m a0 a1 a2 a3 a4 a5 < n → wl_Mod_misses_6 post n a0 a1 a2 a3 a4 a5 := by
    intro n
    induction n with
    | zero => intro a0 a1 a2 a3 a4 a5 _ h; exact absurd h (Nat.not_lt_zero _)
    | succ n ih => intro a0 a1 a2 a3 a4 a5 h hm; exact step (wl_Mod_misses_6 post n) a0 a1 a2 a3 a4 a5 h (fun b0 b1 b2 b3 b4 b5 hb hlt => ih b0 b1 b2 b3 b4 b5 hb (Nat.lt_of_lt_of_le hlt (Nat.le_of_lt_succ hm)))
  exact fun a0 a1 a2 a3 a4 a5 h => ⟨_, key _ a0 a1 a2 a3 a4 a5 h (Nat.lt_succ_self _)⟩
theorem lp_Mod_behind_59 {post : Int32 → St → Prop} (I : Int32 → Int32 → Int32 → Int32 → St → Prop) (m : Int32 → Int32 → Int32 → Int32 → St → Nat)
    (step : ∀ (R : Int32 → Int32 → Int32 → Int32 → St → Prop) (a0 : Int32) (a1 : Int32) (a2 : Int32) (a3 : Int32) (a4 : St), I a0 a1 a2 a3 a4 → (∀ (b0 : Int32) (b1 : Int32) (b2 : Int32) (b3 : Int32) (b4 : St), I b0 b1 b2 b3 b4 → m b0 b1 b2 b3 b4 < m a0 a1 a2 a3 a4 → R b0 b1 b2 b3 b4) → j_Mod_behind_59 post R a0 a1 a2 a3 a4) :
    ∀ (a0 : Int32) (a1 : Int32) (a2 : Int32) (a3 : Int32) (a4 : St), I a0 a1 a2 a3 a4 → ∃ n : Nat, wl_Mod_behind_59 post n a0 a1 a2 a3 a4 := by
  have key : ∀ (n : Nat) (a0 : Int32) (a1 : Int32) (a2 : Int32) (a3 : Int32) (a4 : St), I a0 a1 a2 a3 a4 → m a0 a1 a2 a3 a4 < n → wl_Mod_behind_59 post n a0 a1 a2 a3 a4 := by
    intro n
    induction n with
    | zero => intro a0 a1 a2 a3 a4 _ h; exact absurd h (Nat.not_lt_zero _)
    | succ n ih => intro a0 a1 a2 a3 a4 h hm; exact step (wl_Mod_behind_59 post n) a0 a1 a2 a3 a4 h (fun b0 b1 b2 b3 b4 hb hlt => ih b0 b1 b2 b3 b4 hb (Nat.lt_of_lt_of_le hlt (Nat.le_of_lt_succ hm)))
  exact fun a0 a1 a2 a3 a4 h => ⟨_, key _ a0 a1 a2 a3 a4 h (Nat.lt_succ_self _)⟩
theorem lp_Mod_readText_30 {post : St → Prop} (I : Int32 → St → Prop) (m : Int32 → St → Nat)
    (step : ∀ (R : Int32 → St → Prop) (a0 : Int32) (a1 : St), I a0 a1 → (∀ (b0 : Int32) (b1 : St), I b0 b1 → m b0 b1 < m a0 a1 → R b0 b1) → j_Mod_readText_30 post R a0 a1) :
    ∀ (a0 : Int32) (a1 : St), I a0 a1 → ∃ n : Nat, wl_Mod_readText_30 post n a0 a1 := by
  have key : ∀ (n : Nat) (a0 : Int32) (a1 : St), I a0 a1 → m a0 a1 < n → wl_Mod_readText_30 post n a0 a1 := by
    intro n
    induction n with
    | zero => intro a0 a1 _ h; exact absurd h (Nat.not_lt_zero _)
    | succ n ih => intro a0 a1 h hm; exact step (wl_Mod_readText_30 post n) a0 a1 h (fun b0 b1 hb hlt => ih b0 b1 hb (Nat.lt_of_lt_of_le hlt (Nat.le_of_lt_succ hm)))
  exact fun a0 a1 h => ⟨_, key _ a0 a1 h (Nat.lt_succ_self _)⟩
theorem lp_Mod_readNumber_96 {post : Int64 → St → Prop} (I : Int32 → Int32 → Int32 → Int32 → Int64 → Int32 → St → Prop) (m : Int32 → Int32 → Int32 → Int32 → Int64 → Int32 → St → Nat)
    (step : ∀ (R : Int32 → Int32 → Int32 → Int32 → Int64 → Int32 → St → Prop) (a0 : Int32) (a1 : Int32) (a2 : Int32) (a3 : Int32) (a4 : Int64) (a5 : Int32) (a6 : St), I a0 a1 a2 a3 a4 a5 a6 → (∀ (b0 : Int32) (b1 : Int32) (b2 : Int32) (b3 : Int32) (b4 : Int64) (b5 : Int32) (b6 : St), I b0 b1 b2 b3 b4 b5 b6 → m b0 b1 b2 b3 b4 b5 b6 < m a0 a1 a2 a3 a4 a5 a6 → R b0 b1 b2 b3 b4 b5 b6) → j_Mod_readNumber_96 post R a0 a1 a2 a3 a4 a5 a6) :
    ∀ (a0 : Int32) (a1 : Int32) (a2 : Int32) (a3 : Int32) (a4 : Int64) (a5 : Int32) (a6 : St), I a0 a1 a2 a3 a4 a5 a6 → ∃ n : Nat, wl_Mod_readNumber_96 post n a0 a1 a2 a3 a4 a5 a6 := by
  have key : ∀ (n : Nat) (a0 : Int32) (a1 : Int32) (a2 : Int32) (a3 : Int32) (a4 : Int64) (a5 : Int32) (a6 : St), I a0 a1 a2 a3 a4 a5 a6 → m a0 a1 a2 a3 a4 a5 a6 < n → wl_Mod_readNumber_96 post n a0 a1 a2 a3 a4 a5 a6 := by
    intro n
    induction n with
    | zero => intro a0 a1 a2 a3 a4 a5 a6 _ h; exact absurd h (Nat.not_lt_zero _)
    | succ n ih => intro a0 a1 a2 a3 a4 a5 a6 h hm; exact step (wl_Mod_readNumber_96 post n) a0 a1 a2 a3 a4 a5 a6 h (fun b0 b1 b2 b3 b4 b5 b6 hb hlt => ih b0 b1 b2 b3 b4 b5 b6 hb (Nat.lt_of_lt_of_le hlt (Nat.le_of_lt_succ hm)))
  exact fun a0 a1 a2 a3 a4 a5 a6 h => ⟨_, key _ a0 a1 a2 a3 a4 a5 a6 h (Nat.lt_succ_self _)⟩
theorem lp_Mod_readGroup_11 {post : St → Prop} {self_Mod_readGroup : (St → Prop) → Int32 → Int32 → St → Prop} {self_Mod_readRow : (St → Prop) → Int32 → Int32 → St → Prop} {self_Mod_readValue : (St → Prop) → Int32 → Int32 → St → Prop} (I : Int32 → Int32 → Int32 → Int32 → St → Prop) (m : Int32 → Int32 → Int32 → Int32 → St → Nat)
    (step : ∀ (R : Int32 → Int32 → Int32 → Int32 → St → Prop) (a0 : Int32) (a1 : Int32) (a2 : Int32) (a3 : Int32) (a4 : St), I a0 a1 a2 a3 a4 → (∀ (b0 : Int32) (b1 : Int32) (b2 : Int32) (b3 : Int32) (b4 : St), I b0 b1 b2 b3 b4 → m b0 b1 b2 b3 b4 < m a0 a1 a2 a3 a4 → R b0 b1 b2 b3 b4) → j_Mod_readGroup_11 post self_Mod_readGroup self_Mod_readRow self_Mod_readValue R a0 a1 a2 a3 a4) :
    ∀ (a0 : Int32) (a1 : Int32) (a2 : Int32) (a3 : Int32) (a4 : St), I a0 a1 a2 a3 a4 → ∃ n : Nat, wl_Mod_readGroup_11 post self_Mod_readGroup self_Mod_readRow self_Mod_readValue n a0 a1 a2 a3 a4 := by
  have key : ∀ (n : Nat) (a0 : Int32) (a1 : Int32) (a2 : Int32) (a3 : Int32) (a4 : St), I a0 a1 a2 a3 a4 → m a0 a1 a2 a3 a4 < n → wl_Mod_readGroup_11 post self_Mod_readGroup self_Mod_readRow self_Mod_readValue n a0 a1 a2 a3 a4 := by
    intro n
    induction n with
    | zero => intro a0 a1 a2 a3 a4 _ h; exact absurd h (Nat.not_lt_zero _)
    | succ n ih => intro a0 a1 a2 a3 a4 h hm; exact step (wl_Mod_readGroup_11 post self_Mod_readGroup self_Mod_readRow self_Mod_readValue n) a0 a1 a2 a3 a4 h (fun b0 b1 b2 b3 b4 hb hlt => ih b0 b1 b2 b3 b4 hb (Nat.lt_of_lt_of_le hlt (Nat.le_of_lt_succ hm)))
  exact fun a0 a1 a2 a3 a4 h => ⟨_, key _ a0 a1 a2 a3 a4 h (Nat.lt_succ_self _)⟩
theorem lp_Mod_readRow_16 {post : St → Prop} {self_Mod_readGroup : (St → Prop) → Int32 → Int32 → St → Prop} {self_Mod_readRow : (St → Prop) → Int32 → Int32 → St → Prop} {self_Mod_readValue : (St → Prop) → Int32 → Int32 → St → Prop} (I : Int32 → Int32 → St → Prop) (m : Int32 → Int32 → St → Nat)
    (step : ∀ (R : Int32 → Int32 → St → Prop) (a0 : Int32) (a1 : Int32) (a2 : St), I a0 a1 a2 → (∀ (b0 : Int32) (b1 : Int32) (b2 : St), I b0 b1 b2 → m b0 b1 b2 < m a0 a1 a2 → R b0 b1 b2) → j_Mod_readRow_16 post self_Mod_readGroup self_Mod_readRow self_Mod_readValue R a0 a1 a2) :
    ∀ (a0 : Int32) (a1 : Int32) (a2 : St), I a0 a1 a2 → ∃ n : Nat, wl_Mod_readRow_16 post self_Mod_readGroup self_Mod_readRow self_Mod_readValue n a0 a1 a2 := by
  have key : ∀ (n : Nat) (a0 : Int32) (a1 : Int32) (a2 : St), I a0 a1 a2 → m a0 a1 a2 < n → wl_Mod_readRow_16 post self_Mod_readGroup self_Mod_readRow self_Mod_readValue n a0 a1 a2 := by
    intro n
    induction n with
    | zero => intro a0 a1 a2 _ h; exact absurd h (Nat.not_lt_zero _)
    | succ n ih => intro a0 a1 a2 h hm; exact step (wl_Mod_readRow_16 post self_Mod_readGroup self_Mod_readRow self_Mod_readValue n) a0 a1 a2 h (fun b0 b1 b2 hb hlt => ih b0 b1 b2 hb (Nat.lt_of_lt_of_le hlt (Nat.le_of_lt_succ hm)))
  exact fun a0 a1 a2 h => ⟨_, key _ a0 a1 a2 h (Nat.lt_succ_self _)⟩
theorem lp_Mod_onWay_13 {post : Int32 → St → Prop} (I : Int32 → Int32 → Int32 → Int32 → Int32 → St → Prop) (m : Int32 → Int32 → Int32 → Int32 → Int32 → St → Nat)
    (step : ∀ (R : Int32 → Int32 → Int32 → Int32 → Int32 → St → Prop) (a0 : Int32) (a1 : Int32) (a2 : Int32) (a3 : Int32) (a4 : Int32) (a5 : St), I a0 a1 a2 a3 a4 a5 → (∀ (b0 : Int32) (b1 : Int32) (b2 : Int32) (b3 : Int32) (b4 : Int32) (b5 : St), I b0 b1 b2 b3 b4 b5 → m b0 b1 b2 b3 b4 b5 < m a0 a1 a2 a3 a4 a5 → R b0 b1 b2 b3 b4 b5) → j_Mod_onWay_13 post R a0 a1 a2 a3 a4 a5) :
    ∀ (a0 : Int32) (a1 : Int32) (a2 : Int32) (a3 : Int32) (a4 : Int32) (a5 : St), I a0 a1 a2 a3 a4 a5 → ∃ n : Nat, wl_Mod_onWay_13 post n a0 a1 a2 a3 a4 a5 := by
  have key : ∀ (n : Nat) (a0 : Int32) (a1 : Int32) (a2 : Int32) (a3 : Int32) (a4 : Int32) (a5 : St), I a0 a1 a2 a3 a4 a5 → m a0 a1 a2 a3 a4 a5 < n → wl_Mod_onWay_13 post n a0 a1 a2 a3 a4 a5 := by
    intro n
    induction n with
    | zero => intro a0 a1 a2 a3 a4 a5 _ h; exact absurd h (Nat.not_lt_zero _)
    | succ n ih => intro a0 a1 a2 a3 a4 a5 h hm; exact step (wl_Mod_onWay_13 post n) a0 a1 a2 a3 a4 a5 h (fun b0 b1 b2 b3 b4 b5 hb hlt => ih b0 b1 b2 b3 b4 b5 hb (Nat.lt_of_lt_of_le hlt (Nat.le_of_lt_succ hm)))
  exact fun a0 a1 a2 a3 a4 a5 h => ⟨_, key _ a0 a1 a2 a3 a4 a5 h (Nat.lt_succ_self _)⟩
theorem lp_Mod_level_6 {post : Int32 → St → Prop} (I : Int32 → Int32 → Int32 → Int32 → Int32 → St → Prop) (m : Int32 → Int32 → Int32 → Int32 → Int32 → St → Nat)
    (step : ∀ (R : Int32 → Int32 → Int32 → Int32 → Int32 → St → Prop) (a0 : Int32) (a1 : Int32) (a2 : Int32) (a3 : Int32) (a4 : Int32) (a5 : St), I a0 a1 a2 a3 a4 a5 → (∀ (b0 : Int32) (b1 : Int32) (b2 : Int32) (b3 : Int32) (b4 : Int32) (b5 : St), I b0 b1 b2 b3 b4 b5 → m b0 b1 b2 b3 b4 b5 < m a0 a1 a2 a3 a4 a5 → R b0 b1 b2 b3 b4 b5) → j_Mod_level_6 post R a0 a1 a2 a3 a4 a5) :
    ∀ (a0 : Int32) (a1 : Int32) (a2 : Int32) (a3 : Int32) (a4 : Int32) (a5 : St), I a0 a1 a2 a3 a4 a5 → ∃ n : Nat, wl_Mod_level_6 post n a0 a1 a2 a3 a4 a5 := by
  have key : ∀ (n : Nat) (a0 : Int32) (a1 : Int32) (a2 : Int32) (a3 : Int32) (a4 : Int32) (a5 : St), I a0 a1 a2 a3 a4 a5 → m a0 a1 a2 a3 a4 a5 < n → wl_Mod_level_6 post n a0 a1 a2 a3 a4 a5 := by
    intro n
    induction n with
    | zero => intro a0 a1 a2 a3 a4 a5 _ h; exact absurd h (Nat.not_lt_zero _)
    | succ n ih => intro a0 a1 a2 a3 a4 a5 h hm; exact step (wl_Mod_level_6 post n) a0 a1 a2 a3 a4 a5 h (fun b0 b1 b2 b3 b4 b5 hb hlt => ih b0 b1 b2 b3 b4 b5 hb (Nat.lt_of_lt_of_le hlt (Nat.le_of_lt_succ hm)))
  exact fun a0 a1 a2 a3 a4 a5 h => ⟨_, key _ a0 a1 a2 a3 a4 a5 h (Nat.lt_succ_self _)⟩
theorem lp_Mod_entry_146 {post : St → Prop} (I : Int32 → Int32 → Int32 → Int32 → Int32 → St → Prop) (m : Int32 → Int32 → Int32 → Int32 → Int32 → St → Nat)
    (step : ∀ (R : Int32 → Int32 → Int32 → Int32 → Int32 → St → Prop) (a0 : Int32) (a1 : Int32) (a2 : Int32) (a3 : Int32) (a4 : Int32) (a5 : St), I a0 a1 a2 a3 a4 a5 → (∀ (b0 : Int32) (b1 : Int32) (b2 : Int32) (b3 : Int32) (b4 : Int32) (b5 : St), I b0 b1 b2 b3 b4 b5 → m b0 b1 b2 b3 b4 b5 < m a0 a1 a2 a3 a4 a5 → R b0 b1 b2 b3 b4 b5) → j_Mod_entry_146 post R a0 a1 a2 a3 a4 a5) :
    ∀ (a0 : Int32) (a1 : Int32) (a2 : Int32) (a3 : Int32) (a4 : Int32) (a5 : St), I a0 a1 a2 a3 a4 a5 → ∃ n : Nat, wl_Mod_entry_146 post n a0 a1 a2 a3 a4 a5 := by
  have key : ∀ (n : Nat) (a0 : Int32) (a1 : Int32) (a2 : Int32) (a3 : Int32) (a4 : Int32) (a5 : St), I a0 a1 a2 a3 a4 a5 → m a0 a1 a2 a3 a4 a5 < n → wl_Mod_entry_146 post n a0 a1 a2 a3 a4 a5 := by
    intro n
    induction n with
    | zero => intro a0 a1 a2 a3 a4 a5 _ h; exact absurd h (Nat.not_lt_zero _)
    | succ n ih => intro a0 a1 a2 a3 a4 a5 h hm; exact step (wl_Mod_entry_146 post n) a0 a1 a2 a3 a4 a5 h (fun b0 b1 b2 b3 b4 b5 hb hlt => ih b0 b1 b2 b3 b4 b5 hb (Nat.lt_of_lt_of_le hlt (Nat.le_of_lt_succ hm)))
  exact fun a0 a1 a2 a3 a4 a5 h => ⟨_, key _ a0 a1 a2 a3 a4 a5 h (Nat.lt_succ_self _)⟩
theorem lp_Mod_stripe_30 {post : St → Prop} {self_Mod_stripe : (St → Prop) → Int32 → Int32 → Int32 → Int32 → Int32 → St → Prop} (I : Int32 → Int32 → Int32 → Int32 → Int32 → Int32 → Int32 → Int32 → Int32 → Int32 → St → Prop) (m : Int32 → Int32 → Int32 → Int32 → Int32 → Int32 → Int32 → Int32 → Int32 → Int32 → St → Nat)
    (step : ∀ (R : Int32 → Int32 → Int32 → Int32 → Int32 → Int32 → Int32 → Int32 → Int32 → Int32 → St → Prop) (a0 : Int32) (a1 : Int32) (a2 : Int32) (a3 : Int32) (a4 : Int32) (a5 : Int32) (a6 : Int32) (a7 : Int32) (a8 : Int32) (a9 : Int32) (a10 : St), I a0 a1 a2 a3 a4 a5 a6 a7 a8 a9 a10 → (∀ (b0 : Int32) (b1 : Int32) (b2 : Int32) (b3 : Int32) (b4 : Int32) (b5 : Int32) (b6 : Int32) (b7 : Int32) (b8 : Int32) (b9 : Int32) (b10 : St), I b0 b1 b2 b3 b4 b5 b6 b7 b8 b9 b10 → m b0 b1 b2 b3 b4 b5 b6 b7 b8 b9 b10 < m a0 a1 a2 a3 a4 a5 a6 a7 a8 a9 a10 → R b0 b1 b2 b3 b4 b5 b6 b7 b8 b9 b10) → j_Mod_stripe_30 post self_Mod_stripe R a0 a1 a2 a3 a4 a5 a6 a7 a8 a9 a10) :
    ∀ (a0 : Int32) (a1 : Int32) (a2 : Int32) (a3 : Int32) (a4 : Int32) (a5 : Int32) (a6 : Int32) (a7 : Int32) (a8 : Int32) (a9 : Int32) (a10 : St), I a0 a1 a2 a3 a4 a5 a6 a7 a8 a9 a10 → ∃ n : Nat, wl_Mod_stripe_30 post self_Mod_stripe n a0 a1 a2 a3 a4 a5 a6 a7 a8 a9 a10 := by
  have key : ∀ (n : Nat) (a0 : Int32) (a1 : Int32) (a2 : Int32) (a3 : Int32) (a4 : Int32) (a5 : Int32) (a6 : Int32) (a7 : Int32) (a8 : Int32) (a9 : Int32) (a10 : St), I a0 a1 a2 a3 a4 a5 a6 a7 a8 a9 a10 → m a0 a1 a2 a3 a4 a5 a6 a7 a8 a9 a10 < n → wl_Mod_stripe_30 post self_Mod_stripe n a0 a1 a2 a3 a4 a5 a6 a7 a8 a9 a10 := by
    intro n
    induction n with
    | zero => intro a0 a1 a2 a3 a4 a5 a6 a7 a8 a9 a10 _ h; exact absurd h (Nat.not_lt_zero _)
    | succ n ih => intro a0 a1 a2 a3 a4 a5 a6 a7 a8 a9 a10 h hm; exact step (wl_Mod_stripe_30 post self_Mod_stripe n) a0 a1 a2 a3 a4 a5 a6 a7 a8 a9 a10 h (fun b0 b1 b2 b3 b4 b5 b6 b7 b8 b9 b10 hb hlt => ih b0 b1 b2 b3 b4 b5 b6 b7 b8 b9 b10 hb (Nat.lt_of_lt_of_le hlt (Nat.le_of_lt_succ hm)))
  exact fun a0 a1 a2 a3 a4 a5 a6 a7 a8 a9 a10 h => ⟨_, key _ a0 a1 a2 a3 a4 a5 a6 a7 a8 a9 a10 h (Nat.lt_succ_self _)⟩
theorem lp_Mod_record_137 {post : Int32 → St → Prop} (I : Int32 → Int32 → Int32 → St → Prop) (m : Int32 → Int32 → Int32 → St → Nat)
    (step : ∀ (R : Int32 → Int32 → Int32 → St → Prop) (a0 : Int32) (a1 : Int32) (a2 : Int32) (a3 : St), I a0 a1 a2 a3 → (∀ (b0 : Int32) (b1 : Int32) (b2 : Int32) (b3 : St), I b0 b1 b2 b3 → m b0 b1 b2 b3 < m a0 a1 a2 a3 → R b0 b1 b2 b3) → j_Mod_record_137 post R a0 a1 a2 a3) :
    ∀ (a0 : Int32) (a1 : Int32) (a2 : Int32) (a3 : St), I a0 a1 a2 a3 → ∃ n : Nat, wl_Mod_record_137 post n a0 a1 a2 a3 := by
  have key : ∀ (n : Nat) (a0 : Int32) (a1 : Int32) (a2 : Int32) (a3 : St), I a0 a1 a2 a3 → m a0 a1 a2 a3 < n → wl_Mod_record_137 post n a0 a1 a2 a3 := by
    intro n
    induction n with
    | zero => intro a0 a1 a2 a3 _ h; exact absurd h (Nat.not_lt_zero _)
    | succ n ih => intro a0 a1 a2 a3 h hm; exact step (wl_Mod_record_137 post n) a0 a1 a2 a3 h (fun b0 b1 b2 b3 hb hlt => ih b0 b1 b2 b3 hb (Nat.lt_of_lt_of_le hlt (Nat.le_of_lt_succ hm)))
  exact fun a0 a1 a2 a3 h => ⟨_, key _ a0 a1 a2 a3 h (Nat.lt_succ_self _)⟩
theorem lp_Mod_many_11 {post : Int32 → St → Prop} (I : Int32 → Int32 → Int32 → Int32 → Int32 → St → Prop) (m : Int32 → Int32 → Int32 → Int32 → Int32 → St → Nat)
    (step : ∀ (R : Int32 → Int32 → Int32 → Int32 → Int32 → St → Prop) (a0 : Int32) (a1 : Int32) (a2 : Int32) (a3 : Int32) (a4 : Int32) (a5 : St), I a0 a1 a2 a3 a4 a5 → (∀ (b0 : Int32) (b1 : Int32) (b2 : Int32) (b3 : Int32) (b4 : Int32) (b5 : St), I b0 b1 b2 b3 b4 b5 → m b0 b1 b2 b3 b4 b5 < m a0 a1 a2 a3 a4 a5 → R b0 b1 b2 b3 b4 b5) → j_Mod_many_11 post R a0 a1 a2 a3 a4 a5) :
    ∀ (a0 : Int32) (a1 : Int32) (a2 : Int32) (a3 : Int32) (a4 : Int32) (a5 : St), I a0 a1 a2 a3 a4 a5 → ∃ n : Nat, wl_Mod_many_11 post n a0 a1 a2 a3 a4 a5 := by
  have key : ∀ (n : Nat) (a0 : Int32) (a1 : Int32) (a2 : Int32) (a3 : Int32) (a4 : Int32) (a5 : St), I a0 a1 a2 a3 a4 a5 → m a0 a1 a2 a3 a4 a5 < n → wl_Mod_many_11 post n a0 a1 a2 a3 a4 a5 := by
    intro n
    induction n with
    | zero => intro a0 a1 a2 a3 a4 a5 _ h; exact absurd h (Nat.not_lt_zero _)
    | succ n ih => intro a0 a1 a2 a3 a4 a5 h hm; exact step (wl_Mod_many_11 post n) a0 a1 a2 a3 a4 a5 h (fun b0 b1 b2 b3 b4 b5 hb hlt => ih b0 b1 b2 b3 b4 b5 hb (Nat.lt_of_lt_of_le hlt (Nat.le_of_lt_succ hm)))
  exact fun a0 a1 a2 a3 a4 a5 h => ⟨_, key _ a0 a1 a2 a3 a4 a5 h (Nat.lt_succ_self _)⟩
theorem lp_Mod_textsOf_11 {post : Int32 → St → Prop} (I : Int32 → Int32 → Int32 → Int32 → Int32 → St → Prop) (m : Int32 → Int32 → Int32 → Int32 → Int32 → St → Nat)
    (step : ∀ (R : Int32 → Int32 → Int32 → Int32 → Int32 → St → Prop) (a0 : Int32) (a1 : Int32) (a2 : Int32) (a3 : Int32) (a4 : Int32) (a5 : St), I a0 a1 a2 a3 a4 a5 → (∀ (b0 : Int32) (b1 : Int32) (b2 : Int32) (b3 : Int32) (b4 : Int32) (b5 : St), I b0 b1 b2 b3 b4 b5 → m b0 b1 b2 b3 b4 b5 < m a0 a1 a2 a3 a4 a5 → R b0 b1 b2 b3 b4 b5) → j_Mod_textsOf_11 post R a0 a1 a2 a3 a4 a5) :
    ∀ (a0 : Int32) (a1 : Int32) (a2 : Int32) (a3 : Int32) (a4 : Int32) (a5 : St), I a0 a1 a2 a3 a4 a5 → ∃ n : Nat, wl_Mod_textsOf_11 post n a0 a1 a2 a3 a4 a5 := by
  have key : ∀ (n : Nat) (a0 : Int32) (a1 : Int32) (a2 : Int32) (a3 : Int32) (a4 : Int32) (a5 : St), I a0 a1 a2 a3 a4 a5 → m a0 a1 a2 a3 a4 a5 < n → wl_Mod_textsOf_11 post n a0 a1 a2 a3 a4 a5 := by
    intro n
    induction n with
    | zero => intro a0 a1 a2 a3 a4 a5 _ h; exact absurd h (Nat.not_lt_zero _)
    | succ n ih => intro a0 a1 a2 a3 a4 a5 h hm; exact step (wl_Mod_textsOf_11 post n) a0 a1 a2 a3 a4 a5 h (fun b0 b1 b2 b3 b4 b5 hb hlt => ih b0 b1 b2 b3 b4 b5 hb (Nat.lt_of_lt_of_le hlt (Nat.le_of_lt_succ hm)))
  exact fun a0 a1 a2 a3 a4 a5 h => ⟨_, key _ a0 a1 a2 a3 a4 a5 h (Nat.lt_succ_self _)⟩
theorem lp_Mod_fillPage_179 {post : St → Prop} {rec48 : Int32 → Int32 → Int32 → Int32 → St → Prop} (I : Int32 → Int32 → Int32 → Int32 → Int32 → St → Prop) (m : Int32 → Int32 → Int32 → Int32 → Int32 → St → Nat)
    (step : ∀ (R : Int32 → Int32 → Int32 → Int32 → Int32 → St → Prop) (a0 : Int32) (a1 : Int32) (a2 : Int32) (a3 : Int32) (a4 : Int32) (a5 : St), I a0 a1 a2 a3 a4 a5 → (∀ (b0 : Int32) (b1 : Int32) (b2 : Int32) (b3 : Int32) (b4 : Int32) (b5 : St), I b0 b1 b2 b3 b4 b5 → m b0 b1 b2 b3 b4 b5 < m a0 a1 a2 a3 a4 a5 → R b0 b1 b2 b3 b4 b5) → j_Mod_fillPage_179 post rec48 R a0 a1 a2 a3 a4 a5) :
    ∀ (a0 : Int32) (a1 : Int32) (a2 : Int32) (a3 : Int32) (a4 : Int32) (a5 : St), I a0 a1 a2 a3 a4 a5 → ∃ n : Nat, wl_Mod_fillPage_179 post rec48 n a0 a1 a2 a3 a4 a5 := by
  have key : ∀ (n : Nat) (a0 : Int32) (a1 : Int32) (a2 : Int32) (a3 : Int32) (a4 : Int32) (a5 : St), I a0 a1 a2 a3 a4 a5 → m a0 a1 a2 a3 a4 a5 < n → wl_Mod_fillPage_179 post rec48 n a0 a1 a2 a3 a4 a5 := by
    intro n
    induction n with
    | zero => intro a0 a1 a2 a3 a4 a5 _ h; exact absurd h (Nat.not_lt_zero _)
    | succ n ih => intro a0 a1 a2 a3 a4 a5 h hm; exact step (wl_Mod_fillPage_179 post rec48 n) a0 a1 a2 a3 a4 a5 h (fun b0 b1 b2 b3 b4 b5 hb hlt => ih b0 b1 b2 b3 b4 b5 hb (Nat.lt_of_lt_of_le hlt (Nat.le_of_lt_succ hm)))
  exact fun a0 a1 a2 a3 a4 a5 h => ⟨_, key _ a0 a1 a2 a3 a4 a5 h (Nat.lt_succ_self _)⟩
theorem lp_Mod_fillPage_48 {post : St → Prop} (I : Int32 → Int32 → Int32 → Int32 → St → Prop) (m : Int32 → Int32 → Int32 → Int32 → St → Nat)
    (step : ∀ (R : Int32 → Int32 → Int32 → Int32 → St → Prop) (a0 : Int32) (a1 : Int32) (a2 : Int32) (a3 : Int32) (a4 : St), I a0 a1 a2 a3 a4 → (∀ (b0 : Int32) (b1 : Int32) (b2 : Int32) (b3 : Int32) (b4 : St), I b0 b1 b2 b3 b4 → m b0 b1 b2 b3 b4 < m a0 a1 a2 a3 a4 → R b0 b1 b2 b3 b4) → j_Mod_fillPage_48 post R a0 a1 a2 a3 a4) :
    ∀ (a0 : Int32) (a1 : Int32) (a2 : Int32) (a3 : Int32) (a4 : St), I a0 a1 a2 a3 a4 → ∃ n : Nat, wl_Mod_fillPage_48 post n a0 a1 a2 a3 a4 := by
  have key : ∀ (n : Nat) (a0 : Int32) (a1 : Int32) (a2 : Int32) (a3 : Int32) (a4 : St), I a0 a1 a2 a3 a4 → m a0 a1 a2 a3 a4 < n → wl_Mod_fillPage_48 post n a0 a1 a2 a3 a4 := by
    intro n
    induction n with
    | zero => intro a0 a1 a2 a3 a4 _ h; exact absurd h (Nat.not_lt_zero _)
    | succ n ih => intro a0 a1 a2 a3 a4 h hm; exact step (wl_Mod_fillPage_48 post n) a0 a1 a2 a3 a4 h (fun b0 b1 b2 b3 b4 hb hlt => ih b0 b1 b2 b3 b4 hb (Nat.lt_of_lt_of_le hlt (Nat.le_of_lt_succ hm)))
  exact fun a0 a1 a2 a3 a4 h => ⟨_, key _ a0 a1 a2 a3 a4 h (Nat.lt_succ_self _)⟩
theorem lp_Mod_alike_2 {post : Int32 → St → Prop} (I : Nat → Int32 → Int32 → Int32 → St → Prop) (m : Nat → Int32 → Int32 → Int32 → St → Nat)
    (step : ∀ (R : Nat → Int32 → Int32 → Int32 → St → Prop) (a0 : Nat) (a1 : Int32) (a2 : Int32) (a3 : Int32) (a4 : St), I a0 a1 a2 a3 a4 → (∀ (b0 : Nat) (b1 : Int32) (b2 : Int32) (b3 : Int32) (b4 : St), I b0 b1 b2 b3 b4 → m b0 b1 b2 b3 b4 < m a0 a1 a2 a3 a4 → R b0 b1 b2 b3 b4) → j_Mod_alike_2 post R a0 a1 a2 a3 a4) :
    ∀ (a0 : Nat) (a1 : Int32) (a2 : Int32) (a3 : Int32) (a4 : St), I a0 a1 a2 a3 a4 → ∃ n : Nat, wl_Mod_alike_2 post n a0 a1 a2 a3 a4 := by
  have key : ∀ (n : Nat) (a0 : Nat) (a1 : Int32) (a2 : Int32) (a3 : Int32) (a4 : St), I a0 a1 a2 a3 a4 → m a0 a1 a2 a3 a4 < n → wl_Mod_alike_2 post n a0 a1 a2 a3 a4 := by
    intro n
    induction n with
    | zero => intro a0 a1 a2 a3 a4 _ h; exact absurd h (Nat.not_lt_zero _)
    | succ n ih => intro a0 a1 a2 a3 a4 h hm; exact step (wl_Mod_alike_2 post n) a0 a1 a2 a3 a4 h (fun b0 b1 b2 b3 b4 hb hlt => ih b0 b1 b2 b3 b4 hb (Nat.lt_of_lt_of_le hlt (Nat.le_of_lt_succ hm)))
  exact fun a0 a1 a2 a3 a4 h => ⟨_, key _ a0 a1 a2 a3 a4 h (Nat.lt_succ_self _)⟩
theorem lp_Mod_putVarint_2 {post : St → Prop} (I : Int64 → Int64 → St → Prop) (m : Int64 → Int64 → St → Nat)
    (step : ∀ (R : Int64 → Int64 → St → Prop) (a0 : Int64) (a1 : Int64) (a2 : St), I a0 a1 a2 → (∀ (b0 : Int64) (b1 : Int64) (b2 : St), I b0 b1 b2 → m b0 b1 b2 < m a0 a1 a2 → R b0 b1 b2) → j_Mod_putVarint_2 post R a0 a1 a2) :
    ∀ (a0 : Int64) (a1 : Int64) (a2 : St), I a0 a1 a2 → ∃ n : Nat, wl_Mod_putVarint_2 post n a0 a1 a2 := by
  have key : ∀ (n : Nat) (a0 : Int64) (a1 : Int64) (a2 : St), I a0 a1 a2 → m a0 a1 a2 < n → wl_Mod_putVarint_2 post n a0 a1 a2 := by
    intro n
    induction n with
    | zero => intro a0 a1 a2 _ h; exact absurd h (Nat.not_lt_zero _)
    | succ n ih => intro a0 a1 a2 h hm; exact step (wl_Mod_putVarint_2 post n) a0 a1 a2 h (fun b0 b1 b2 hb hlt => ih b0 b1 b2 hb (Nat.lt_of_lt_of_le hlt (Nat.le_of_lt_succ hm)))
  exact fun a0 a1 a2 h => ⟨_, key _ a0 a1 a2 h (Nat.lt_succ_self _)⟩
theorem lp_Mod_writeRuns_145 {post : St → Prop} {rec3 : Nat → Int32 → Int32 → Int32 → St → Prop} {rec127 : Nat → Int32 → Int32 → Int32 → Int32 → Int32 → Int32 → St → Prop} (I : Nat → Int32 → Int32 → Int32 → Int32 → Int32 → Int32 → Int32 → Int32 → St → Prop) (m : Nat → Int32 → Int32 → Int32 → Int32 → Int32 → Int32 → Int32 → Int32 → St → Nat)
    (step : ∀ (R : Nat → Int32 → Int32 → Int32 → Int32 → Int32 → Int32 → Int32 → Int32 → St → Prop) (a0 : Nat) (a1 : Int32) (a2 : Int32) (a3 : Int32) (a4 : Int32) (a5 : Int32) (a6 : Int32) (a7 : Int32) (a8 : Int32) (a9 : St), I a0 a1 a2 a3 a4 a5 a6 a7 a8 a9 → (∀ (b0 : Nat) (b1 : Int32) (b2 : Int32) (b3 : Int32) (b4 : Int32) (b5 : Int32) (b6 : Int32) (b7 : Int32) (b8 : Int32) (b9 : St), I b0 b1 b2 b3 b4 b5 b6 b7 b8 b9 → m b0 b1 b2 b3 b4 b5 b6 b7 b8 b9 < m a0 a1 a2 a3 a4 a5 a6 a7 a8 a9 → R b0 b1 b2 b3 b4 b5 b6 b7 b8 b9) → j_Mod_writeRuns_145 post rec3 rec127 R a0 a1 a2 a3 a4 a5 a6 a7 a8 a9) :
    ∀ (a0 : Nat) (a1 : Int32) (a2 : Int32) (a3 : Int32) (a4 : Int32) (a5 : Int32) (a6 : Int32) (a7 : Int32) (a8 : Int32) (a9 : St), I a0 a1 a2 a3 a4 a5 a6 a7 a8 a9 → ∃ n : Nat, wl_Mod_writeRuns_145 post rec3 rec127 n a0 a1 a2 a3 a4 a5 a6 a7 a8 a9 := by
  have key : ∀ (n : Nat) (a0 : Nat) (a1 : Int32) (a2 : Int32) (a3 : Int32) (a4 : Int32) (a5 : Int32) (a6 : Int32) (a7 : Int32) (a8 : Int32) (a9 : St), I a0 a1 a2 a3 a4 a5 a6 a7 a8 a9 → m a0 a1 a2 a3 a4 a5 a6 a7 a8 a9 < n → wl_Mod_writeRuns_145 post rec3 rec127 n a0 a1 a2 a3 a4 a5 a6 a7 a8 a9 := by
    intro n
    induction n with
    | zero => intro a0 a1 a2 a3 a4 a5 a6 a7 a8 a9 _ h; exact absurd h (Nat.not_lt_zero _)
    | succ n ih => intro a0 a1 a2 a3 a4 a5 a6 a7 a8 a9 h hm; exact step (wl_Mod_writeRuns_145 post rec3 rec127 n) a0 a1 a2 a3 a4 a5 a6 a7 a8 a9 h (fun b0 b1 b2 b3 b4 b5 b6 b7 b8 b9 hb hlt => ih b0 b1 b2 b3 b4 b5 b6 b7 b8 b9 hb (Nat.lt_of_lt_of_le hlt (Nat.le_of_lt_succ hm)))
  exact fun a0 a1 a2 a3 a4 a5 a6 a7 a8 a9 h => ⟨_, key _ a0 a1 a2 a3 a4 a5 a6 a7 a8 a9 h (Nat.lt_succ_self _)⟩
theorem lp_Mod_writeRuns_127 {post : St → Prop} {rec3 : Nat → Int32 → Int32 → Int32 → St → Prop} (I : Nat → Int32 → Int32 → Int32 → Int32 → Int32 → Int32 → St → Prop) (m : Nat → Int32 → Int32 → Int32 → Int32 → Int32 → Int32 → St → Nat)
    (step : ∀ (R : Nat → Int32 → Int32 → Int32 → Int32 → Int32 → Int32 → St → Prop) (a0 : Nat) (a1 : Int32) (a2 : Int32) (a3 : Int32) (a4 : Int32) (a5 : Int32) (a6 : Int32) (a7 : St), I a0 a1 a2 a3 a4 a5 a6 a7 → (∀ (b0 : Nat) (b1 : Int32) (b2 : Int32) (b3 : Int32) (b4 : Int32) (b5 : Int32) (b6 : Int32) (b7 : St), I b0 b1 b2 b3 b4 b5 b6 b7 → m b0 b1 b2 b3 b4 b5 b6 b7 < m a0 a1 a2 a3 a4 a5 a6 a7 → R b0 b1 b2 b3 b4 b5 b6 b7) → j_Mod_writeRuns_127 post rec3 R a0 a1 a2 a3 a4 a5 a6 a7) :
    ∀ (a0 : Nat) (a1 : Int32) (a2 : Int32) (a3 : Int32) (a4 : Int32) (a5 : Int32) (a6 : Int32) (a7 : St), I a0 a1 a2 a3 a4 a5 a6 a7 → ∃ n : Nat, wl_Mod_writeRuns_127 post rec3 n a0 a1 a2 a3 a4 a5 a6 a7 := by
  have key : ∀ (n : Nat) (a0 : Nat) (a1 : Int32) (a2 : Int32) (a3 : Int32) (a4 : Int32) (a5 : Int32) (a6 : Int32) (a7 : St), I a0 a1 a2 a3 a4 a5 a6 a7 → m a0 a1 a2 a3 a4 a5 a6 a7 < n → wl_Mod_writeRuns_127 post rec3 n a0 a1 a2 a3 a4 a5 a6 a7 := by
    intro n
    induction n with
    | zero => intro a0 a1 a2 a3 a4 a5 a6 a7 _ h; exact absurd h (Nat.not_lt_zero _)
    | succ n ih => intro a0 a1 a2 a3 a4 a5 a6 a7 h hm; exact step (wl_Mod_writeRuns_127 post rec3 n) a0 a1 a2 a3 a4 a5 a6 a7 h (fun b0 b1 b2 b3 b4 b5 b6 b7 hb hlt => ih b0 b1 b2 b3 b4 b5 b6 b7 hb (Nat.lt_of_lt_of_le hlt (Nat.le_of_lt_succ hm)))
  exact fun a0 a1 a2 a3 a4 a5 a6 a7 h => ⟨_, key _ a0 a1 a2 a3 a4 a5 a6 a7 h (Nat.lt_succ_self _)⟩
theorem lp_Mod_writeRuns_75 {post : St → Prop} {rec3 : Nat → Int32 → Int32 → Int32 → St → Prop} (I : Nat → Int32 → Int32 → Int32 → Int32 → Int32 → St → Prop) (m : Nat → Int32 → Int32 → Int32 → Int32 → Int32 → St → Nat)
    (step : ∀ (R : Nat → Int32 → Int32 → Int32 → Int32 → Int32 → St → Prop) (a0 : Nat) (a1 : Int32) (a2 : Int32) (a3 : Int32) (a4 : Int32) (a5 : Int32) (a6 : St), I a0 a1 a2 a3 a4 a5 a6 → (∀ (b0 : Nat) (b1 : Int32) (b2 : Int32) (b3 : Int32) (b4 : Int32) (b5 : Int32) (b6 : St), I b0 b1 b2 b3 b4 b5 b6 → m b0 b1 b2 b3 b4 b5 b6 < m a0 a1 a2 a3 a4 a5 a6 → R b0 b1 b2 b3 b4 b5 b6) → j_Mod_writeRuns_75 post rec3 R a0 a1 a2 a3 a4 a5 a6) :
    ∀ (a0 : Nat) (a1 : Int32) (a2 : Int32) (a3 : Int32) (a4 : Int32) (a5 : Int32) (a6 : St), I a0 a1 a2 a3 a4 a5 a6 → ∃ n : Nat, wl_Mod_writeRuns_75 post rec3 n a0 a1 a2 a3 a4 a5 a6 := by
  have key : ∀ (n : Nat) (a0 : Nat) (a1 : Int32) (a2 : Int32) (a3 : Int32) (a4 : Int32) (a5 : Int32) (a6 : St), I a0 a1 a2 a3 a4 a5 a6 → m a0 a1 a2 a3 a4 a5 a6 < n → wl_Mod_writeRuns_75 post rec3 n a0 a1 a2 a3 a4 a5 a6 := by
    intro n
    induction n with
    | zero => intro a0 a1 a2 a3 a4 a5 a6 _ h; exact absurd h (Nat.not_lt_zero _)
    | succ n ih => intro a0 a1 a2 a3 a4 a5 a6 h hm; exact step (wl_Mod_writeRuns_75 post rec3 n) a0 a1 a2 a3 a4 a5 a6 h (fun b0 b1 b2 b3 b4 b5 b6 hb hlt => ih b0 b1 b2 b3 b4 b5 b6 hb (Nat.lt_of_lt_of_le hlt (Nat.le_of_lt_succ hm)))
  exact fun a0 a1 a2 a3 a4 a5 a6 h => ⟨_, key _ a0 a1 a2 a3 a4 a5 a6 h (Nat.lt_succ_self _)⟩
theorem lp_Mod_writeRuns_39 {post : St → Prop} {rec3 : Nat → Int32 → Int32 → Int32 → St → Prop} (I : Nat → Int32 → Int32 → Int32 → Int32 → Int32 → St → Prop) (m : Nat → Int32 → Int32 → Int32 → Int32 → Int32 → St → Nat)
    (step : ∀ (R : Nat → Int32 → Int32 → Int32 → Int32 → Int32 → St → Prop) (a0 : Nat) (a1 : Int32) (a2 : Int32) (a3 : Int32) (a4 : Int32) (a5 : Int32) (a6 : St), I a0 a1 a2 a3 a4 a5 a6 → (∀ (b0 : Nat) (b1 : Int32) (b2 : Int32) (b3 : Int32) (b4 : Int32) (b5 : Int32) (b6 : St), I b0 b1 b2 b3 b4 b5 b6 → m b0 b1 b2 b3 b4 b5 b6 < m a0 a1 a2 a3 a4 a5 a6 → R b0 b1 b2 b3 b4 b5 b6) → j_Mod_writeRuns_39 post rec3 R a0 a1 a2 a3 a4 a5 a6) :
    ∀ (a0 : Nat) (a1 : Int32) (a2 : Int32) (a3 : Int32) (a4 : Int32) (a5 : Int32) (a6 : St), I a0 a1 a2 a3 a4 a5 a6 → ∃ n : Nat, wl_Mod_writeRuns_39 post rec3 n a0 a1 a2 a3 a4 a5 a6 := by
  have key : ∀ (n : Nat) (a0 : Nat) (a1 : Int32) (a2 : Int32) (a3 : Int32) (a4 : Int32) (a5 : Int32) (a6 : St), I a0 a1 a2 a3 a4 a5 a6 → m a0 a1 a2 a3 a4 a5 a6 < n → wl_Mod_writeRuns_39 post rec3 n a0 a1 a2 a3 a4 a5 a6 := by
    intro n
    induction n with
    | zero => intro a0 a1 a2 a3 a4 a5 a6 _ h; exact absurd h (Nat.not_lt_zero _)
    | succ n ih => intro a0 a1 a2 a3 a4 a5 a6 h hm; exact step (wl_Mod_writeRuns_39 post rec3 n) a0 a1 a2 a3 a4 a5 a6 h (fun b0 b1 b2 b3 b4 b5 b6 hb hlt => ih b0 b1 b2 b3 b4 b5 b6 hb (Nat.lt_of_lt_of_le hlt (Nat.le_of_lt_succ hm)))
  exact fun a0 a1 a2 a3 a4 a5 a6 h => ⟨_, key _ a0 a1 a2 a3 a4 a5 a6 h (Nat.lt_succ_self _)⟩
theorem lp_Mod_writeRuns_3 {post : St → Prop} (I : Nat → Int32 → Int32 → Int32 → St → Prop) (m : Nat → Int32 → Int32 → Int32 → St → Nat)
    (step : ∀ (R : Nat → Int32 → Int32 → Int32 → St → Prop) (a0 : Nat) (a1 : Int32) (a2 : Int32) (a3 : Int32) (a4 : St), I a0 a1 a2 a3 a4 → (∀ (b0 : Nat) (b1 : Int32) (b2 : Int32) (b3 : Int32) (b4 : St), I b0 b1 b2 b3 b4 → m b0 b1 b2 b3 b4 < m a0 a1 a2 a3 a4 → R b0 b1 b2 b3 b4) → j_Mod_writeRuns_3 post R a0 a1 a2 a3 a4) :
    ∀ (a0 : Nat) (a1 : Int32) (a2 : Int32) (a3 : Int32) (a4 : St), I a0 a1 a2 a3 a4 → ∃ n : Nat, wl_Mod_writeRuns_3 post n a0 a1 a2 a3 a4 := by
  have key : ∀ (n : Nat) (a0 : Nat) (a1 : Int32) (a2 : Int32) (a3 : Int32) (a4 : St), I a0 a1 a2 a3 a4 → m a0 a1 a2 a3 a4 < n → wl_Mod_writeRuns_3 post n a0 a1 a2 a3 a4 := by
    intro n
    induction n with
    | zero => intro a0 a1 a2 a3 a4 _ h; exact absurd h (Nat.not_lt_zero _)
    | succ n ih => intro a0 a1 a2 a3 a4 h hm; exact step (wl_Mod_writeRuns_3 post n) a0 a1 a2 a3 a4 h (fun b0 b1 b2 b3 b4 hb hlt => ih b0 b1 b2 b3 b4 hb (Nat.lt_of_lt_of_le hlt (Nat.le_of_lt_succ hm)))
  exact fun a0 a1 a2 a3 a4 h => ⟨_, key _ a0 a1 a2 a3 a4 h (Nat.lt_succ_self _)⟩
theorem lp_Mod_writeBools_66 {post : St → Prop} {rec49 : Int32 → Int32 → St → Prop} (I : Int32 → Int32 → Int32 → Int32 → St → Prop) (m : Int32 → Int32 → Int32 → Int32 → St → Nat)
    (step : ∀ (R : Int32 → Int32 → Int32 → Int32 → St → Prop) (a0 : Int32) (a1 : Int32) (a2 : Int32) (a3 : Int32) (a4 : St), I a0 a1 a2 a3 a4 → (∀ (b0 : Int32) (b1 : Int32) (b2 : Int32) (b3 : Int32) (b4 : St), I b0 b1 b2 b3 b4 → m b0 b1 b2 b3 b4 < m a0 a1 a2 a3 a4 → R b0 b1 b2 b3 b4) → j_Mod_writeBools_66 post rec49 R a0 a1 a2 a3 a4) :
    ∀ (a0 : Int32) (a1 : Int32) (a2 : Int32) (a3 : Int32) (a4 : St), I a0 a1 a2 a3 a4 → ∃ n : Nat, wl_Mod_writeBools_66 post rec49 n a0 a1 a2 a3 a4 := by
  have key : ∀ (n : Nat) (a0 : Int32) (a1 : Int32) (a2 : Int32) (a3 : Int32) (a4 : St), I a0 a1 a2 a3 a4 → m a0 a1 a2 a3 a4 < n → wl_Mod_writeBools_66 post rec49 n a0 a1 a2 a3 a4 := by
    intro n
    induction n with
    | zero => intro a0 a1 a2 a3 a4 _ h; exact absurd h (Nat.not_lt_zero _)
    | succ n ih => intro a0 a1 a2 a3 a4 h hm; exact step (wl_Mod_writeBools_66 post rec49 n) a0 a1 a2 a3 a4 h (fun b0 b1 b2 b3 b4 hb hlt => ih b0 b1 b2 b3 b4 hb (Nat.lt_of_lt_of_le hlt (Nat.le_of_lt_succ hm)))
  exact fun a0 a1 a2 a3 a4 h => ⟨_, key _ a0 a1 a2 a3 a4 h (Nat.lt_succ_self _)⟩
theorem lp_Mod_writeBools_49 {post : St → Prop} (I : Int32 → Int32 → St → Prop) (m : Int32 → Int32 → St → Nat)
    (step : ∀ (R : Int32 → Int32 → St → Prop) (a0 : Int32) (a1 : Int32) (a2 : St), I a0 a1 a2 → (∀ (b0 : Int32) (b1 : Int32) (b2 : St), I b0 b1 b2 → m b0 b1 b2 < m a0 a1 a2 → R b0 b1 b2) → j_Mod_writeBools_49 post R a0 a1 a2) :
    ∀ (a0 : Int32) (a1 : Int32) (a2 : St), I a0 a1 a2 → ∃ n : Nat, wl_Mod_writeBools_49 post n a0 a1 a2 := by
  have key : ∀ (n : Nat) (a0 : Int32) (a1 : Int32) (a2 : St), I a0 a1 a2 → m a0 a1 a2 < n → wl_Mod_writeBools_49 post n a0 a1 a2 := by
    intro n
    induction n with
    | zero => intro a0 a1 a2 _ h; exact absurd h (Nat.not_lt_zero _)
    | succ n ih => intro a0 a1 a2 h hm; exact step (wl_Mod_writeBools_49 post n) a0 a1 a2 h (fun b0 b1 b2 hb hlt => ih b0 b1 b2 hb (Nat.lt_of_lt_of_le hlt (Nat.le_of_lt_succ hm)))
  exact fun a0 a1 a2 h => ⟨_, key _ a0 a1 a2 h (Nat.lt_succ_self _)⟩
theorem lp_Mod_writeBools_2 {post : St → Prop} (I : Int32 → Int32 → St → Prop) (m : Int32 → Int32 → St → Nat)
    (step : ∀ (R : Int32 → Int32 → St → Prop) (a0 : Int32) (a1 : Int32) (a2 : St), I a0 a1 a2 → (∀ (b0 : Int32) (b1 : Int32) (b2 : St), I b0 b1 b2 → m b0 b1 b2 < m a0 a1 a2 → R b0 b1 b2) → j_Mod_writeBools_2 post R a0 a1 a2) :
    ∀ (a0 : Int32) (a1 : Int32) (a2 : St), I a0 a1 a2 → ∃ n : Nat, wl_Mod_writeBools_2 post n a0 a1 a2 := by
  have key : ∀ (n : Nat) (a0 : Int32) (a1 : Int32) (a2 : St), I a0 a1 a2 → m a0 a1 a2 < n → wl_Mod_writeBools_2 post n a0 a1 a2 := by
    intro n
    induction n with
    | zero => intro a0 a1 a2 _ h; exact absurd h (Nat.not_lt_zero _)
    | succ n ih => intro a0 a1 a2 h hm; exact step (wl_Mod_writeBools_2 post n) a0 a1 a2 h (fun b0 b1 b2 hb hlt => ih b0 b1 b2 hb (Nat.lt_of_lt_of_le hlt (Nat.le_of_lt_succ hm)))
  exact fun a0 a1 a2 h => ⟨_, key _ a0 a1 a2 h (Nat.lt_succ_self _)⟩
theorem lp_Mod_putFixed_3 {post : St → Prop} (I : Int64 → Int32 → Int32 → St → Prop) (m : Int64 → Int32 → Int32 → St → Nat)
    (step : ∀ (R : Int64 → Int32 → Int32 → St → Prop) (a0 : Int64) (a1 : Int32) (a2 : Int32) (a3 : St), I a0 a1 a2 a3 → (∀ (b0 : Int64) (b1 : Int32) (b2 : Int32) (b3 : St), I b0 b1 b2 b3 → m b0 b1 b2 b3 < m a0 a1 a2 a3 → R b0 b1 b2 b3) → j_Mod_putFixed_3 post R a0 a1 a2 a3) :
    ∀ (a0 : Int64) (a1 : Int32) (a2 : Int32) (a3 : St), I a0 a1 a2 a3 → ∃ n : Nat, wl_Mod_putFixed_3 post n a0 a1 a2 a3 := by
  have key : ∀ (n : Nat) (a0 : Int64) (a1 : Int32) (a2 : Int32) (a3 : St), I a0 a1 a2 a3 → m a0 a1 a2 a3 < n → wl_Mod_putFixed_3 post n a0 a1 a2 a3 := by
    intro n
    induction n with
    | zero => intro a0 a1 a2 a3 _ h; exact absurd h (Nat.not_lt_zero _)
    | succ n ih => intro a0 a1 a2 a3 h hm; exact step (wl_Mod_putFixed_3 post n) a0 a1 a2 a3 h (fun b0 b1 b2 b3 hb hlt => ih b0 b1 b2 b3 hb (Nat.lt_of_lt_of_le hlt (Nat.le_of_lt_succ hm)))
  exact fun a0 a1 a2 a3 h => ⟨_, key _ a0 a1 a2 a3 h (Nat.lt_succ_self _)⟩
theorem lp_Mod_widthOf_21 {post : Int32 → St → Prop} {rec6 : Int32 → Int32 → Int64 → Int32 → Int32 → St → Prop} (I : Int32 → Int32 → Int64 → Int32 → Int32 → St → Prop) (m : Int32 → Int32 → Int64 → Int32 → Int32 → St → Nat)
    (step : ∀ (R : Int32 → Int32 → Int64 → Int32 → Int32 → St → Prop) (a0 : Int32) (a1 : Int32) (a2 : Int64) (a3 : Int32) (a4 : Int32) (a5 : St), I a0 a1 a2 a3 a4 a5 → (∀ (b0 : Int32) (b1 : Int32) (b2 : Int64) (b3 : Int32) (b4 : Int32) (b5 : St), I b0 b1 b2 b3 b4 b5 → m b0 b1 b2 b3 b4 b5 < m a0 a1 a2 a3 a4 a5 → R b0 b1 b2 b3 b4 b5) → j_Mod_widthOf_21 post rec6 R a0 a1 a2 a3 a4 a5) :
    ∀ (a0 : Int32) (a1 : Int32) (a2 : Int64) (a3 : Int32) (a4 : Int32) (a5 : St), I a0 a1 a2 a3 a4 a5 → ∃ n : Nat, wl_Mod_widthOf_21 post rec6 n a0 a1 a2 a3 a4 a5 := by
  have key : ∀ (n : Nat) (a0 : Int32) (a1 : Int32) (a2 : Int64) (a3 : Int32) (a4 : Int32) (a5 : St), I a0 a1 a2 a3 a4 a5 → m a0 a1 a2 a3 a4 a5 < n → wl_Mod_widthOf_21 post rec6 n a0 a1 a2 a3 a4 a5 := by
    intro n
    induction n with
    | zero => intro a0 a1 a2 a3 a4 a5 _ h; exact absurd h (Nat.not_lt_zero _)
    | succ n ih => intro a0 a1 a2 a3 a4 a5 h hm; exact step (wl_Mod_widthOf_21 post rec6 n) a0 a1 a2 a3 a4 a5 h (fun b0 b1 b2 b3 b4 b5 hb hlt => ih b0 b1 b2 b3 b4 b5 hb (Nat.lt_of_lt_of_le hlt (Nat.le_of_lt_succ hm)))
  exact fun a0 a1 a2 a3 a4 a5 h => ⟨_, key _ a0 a1 a2 a3 a4 a5 h (Nat.lt_succ_self _)⟩
theorem lp_Mod_widthOf_6 {post : Int32 → St → Prop} (I : Int32 → Int32 → Int64 → Int32 → Int32 → St → Prop) (m : Int32 → Int32 → Int64 → Int32 → Int32 → St → Nat)
    (step : ∀ (R : Int32 → Int32 → Int64 → Int32 → Int32 → St → Prop) (a0 : Int32) (a1 : Int32) (a2 : Int64) (a3 : Int32) (a4 : Int32) (a5 : St), I a0 a1 a2 a3 a4 a5 → (∀ (b0 : Int32) (b1 : Int32) (b2 : Int64) (b3 : Int32) (b4 : Int32) (b5 : St), I b0 b1 b2 b3 b4 b5 → m b0 b1 b2 b3 b4 b5 < m a0 a1 a2 a3 a4 a5 → R b0 b1 b2 b3 b4 b5) → j_Mod_widthOf_6 post R a0 a1 a2 a3 a4 a5) :
    ∀ (a0 : Int32) (a1 : Int32) (a2 : Int64) (a3 : Int32) (a4 : Int32) (a5 : St), I a0 a1 a2 a3 a4 a5 → ∃ n : Nat, wl_Mod_widthOf_6 post n a0 a1 a2 a3 a4 a5 := by
  have key : ∀ (n : Nat) (a0 : Int32) (a1 : Int32) (a2 : Int64) (a3 : Int32) (a4 : Int32) (a5 : St), I a0 a1 a2 a3 a4 a5 → m a0 a1 a2 a3 a4 a5 < n → wl_Mod_widthOf_6 post n a0 a1 a2 a3 a4 a5 := by
    intro n
    induction n with
    | zero => intro a0 a1 a2 a3 a4 a5 _ h; exact absurd h (Nat.not_lt_zero _)
    | succ n ih => intro a0 a1 a2 a3 a4 a5 h hm; exact step (wl_Mod_widthOf_6 post n) a0 a1 a2 a3 a4 a5 h (fun b0 b1 b2 b3 b4 b5 hb hlt => ih b0 b1 b2 b3 b4 b5 hb (Nat.lt_of_lt_of_le hlt (Nat.le_of_lt_succ hm)))
  exact fun a0 a1 a2 a3 a4 a5 h => ⟨_, key _ a0 a1 a2 a3 a4 a5 h (Nat.lt_succ_self _)⟩
theorem lp_Mod_writePart_19 {post : St → Prop} {rec3 : Int32 → Int32 → Int64 → Int32 → Int32 → St → Prop} (I : Int32 → Int32 → Int64 → Int32 → Int32 → Int32 → Int32 → St → Prop) (m : Int32 → Int32 → Int64 → Int32 → Int32 → Int32 → Int32 → St → Nat)
    (step : ∀ (R : Int32 → Int32 → Int64 → Int32 → Int32 → Int32 → Int32 → St → Prop) (a0 : Int32) (a1 : Int32) (a2 : Int64) (a3 : Int32) (a4 : Int32) (a5 : Int32) (a6 : Int32) (a7 : St), I a0 a1 a2 a3 a4 a5 a6 a7 → (∀ (b0 : Int32) (b1 : Int32) (b2 : Int64) (b3 : Int32) (b4 : Int32) (b5 : Int32) (b6 : Int32) (b7 : St), I b0 b1 b2 b3 b4 b5 b6 b7 → m b0 b1 b2 b3 b4 b5 b6 b7 < m a0 a1 a2 a3 a4 a5 a6 a7 → R b0 b1 b2 b3 b4 b5 b6 b7) → j_Mod_writePart_19 post rec3 R a0 a1 a2 a3 a4 a5 a6 a7) :
    ∀ (a0 : Int32) (a1 : Int32) (a2 : Int64) (a3 : Int32) (a4 : Int32) (a5 : Int32) (a6 : Int32) (a7 : St), I a0 a1 a2 a3 a4 a5 a6 a7 → ∃ n : Nat, wl_Mod_writePart_19 post rec3 n a0 a1 a2 a3 a4 a5 a6 a7 := by
  have key : ∀ (n : Nat) (a0 : Int32) (a1 : Int32) (a2 : Int64) (a3 : Int32) (a4 : Int32) (a5 : Int32) (a6 : Int32) (a7 : St), I a0 a1 a2 a3 a4 a5 a6 a7 → m a0 a1 a2 a3 a4 a5 a6 a7 < n → wl_Mod_writePart_19 post rec3 n a0 a1 a2 a3 a4 a5 a6 a7 := by
    intro n
    induction n with
    | zero => intro a0 a1 a2 a3 a4 a5 a6 a7 _ h; exact absurd h (Nat.not_lt_zero _)
    | succ n ih => intro a0 a1 a2 a3 a4 a5 a6 a7 h hm; exact step (wl_Mod_writePart_19 post rec3 n) a0 a1 a2 a3 a4 a5 a6 a7 h (fun b0 b1 b2 b3 b4 b5 b6 b7 hb hlt => ih b0 b1 b2 b3 b4 b5 b6 b7 hb (Nat.lt_of_lt_of_le hlt (Nat.le_of_lt_succ hm)))
  exact fun a0 a1 a2 a3 a4 a5 a6 a7 h => ⟨_, key _ a0 a1 a2 a3 a4 a5 a6 a7 h (Nat.lt_succ_self _)⟩
theorem lp_Mod_writePart_3 {post : St → Prop} (I : Int32 → Int32 → Int64 → Int32 → Int32 → St → Prop) (m : Int32 → Int32 → Int64 → Int32 → Int32 → St → Nat)
    (step : ∀ (R : Int32 → Int32 → Int64 → Int32 → Int32 → St → Prop) (a0 : Int32) (a1 : Int32) (a2 : Int64) (a3 : Int32) (a4 : Int32) (a5 : St), I a0 a1 a2 a3 a4 a5 → (∀ (b0 : Int32) (b1 : Int32) (b2 : Int64) (b3 : Int32) (b4 : Int32) (b5 : St), I b0 b1 b2 b3 b4 b5 → m b0 b1 b2 b3 b4 b5 < m a0 a1 a2 a3 a4 a5 → R b0 b1 b2 b3 b4 b5) → j_Mod_writePart_3 post R a0 a1 a2 a3 a4 a5) :
    ∀ (a0 : Int32) (a1 : Int32) (a2 : Int64) (a3 : Int32) (a4 : Int32) (a5 : St), I a0 a1 a2 a3 a4 a5 → ∃ n : Nat, wl_Mod_writePart_3 post n a0 a1 a2 a3 a4 a5 := by
  have key : ∀ (n : Nat) (a0 : Int32) (a1 : Int32) (a2 : Int64) (a3 : Int32) (a4 : Int32) (a5 : St), I a0 a1 a2 a3 a4 a5 → m a0 a1 a2 a3 a4 a5 < n → wl_Mod_writePart_3 post n a0 a1 a2 a3 a4 a5 := by
    intro n
    induction n with
    | zero => intro a0 a1 a2 a3 a4 a5 _ h; exact absurd h (Nat.not_lt_zero _)
    | succ n ih => intro a0 a1 a2 a3 a4 a5 h hm; exact step (wl_Mod_writePart_3 post n) a0 a1 a2 a3 a4 a5 h (fun b0 b1 b2 b3 b4 b5 hb hlt => ih b0 b1 b2 b3 b4 b5 hb (Nat.lt_of_lt_of_le hlt (Nat.le_of_lt_succ hm)))
  exact fun a0 a1 a2 a3 a4 a5 h => ⟨_, key _ a0 a1 a2 a3 a4 a5 h (Nat.lt_succ_self _)⟩
theorem lp_Mod_writeLongs_152 {post : St → Prop} {rec31 : Int32 → St → Prop} (I : Int32 → Int32 → Int64 → Int32 → St → Prop) (m : Int32 → Int32 → Int64 → Int32 → St → Nat)
    (step : ∀ (R : Int32 → Int32 → Int64 → Int32 → St → Prop) (a0 : Int32) (a1 : Int32) (a2 : Int64) (a3 : Int32) (a4 : St), I a0 a1 a2 a3 a4 → (∀ (b0 : Int32) (b1 : Int32) (b2 : Int64) (b3 : Int32) (b4 : St), I b0 b1 b2 b3 b4 → m b0 b1 b2 b3 b4 < m a0 a1 a2 a3 a4 → R b0 b1 b2 b3 b4) → j_Mod_writeLongs_152 post rec31 R a0 a1 a2 a3 a4) :
    ∀ (a0 : Int32) (a1 : Int32) (a2 : Int64) (a3 : Int32) (a4 : St), I a0 a1 a2 a3 a4 → ∃ n : Nat, wl_Mod_writeLongs_152 post rec31 n a0 a1 a2 a3 a4 := by
  have key : ∀ (n : Nat) (a0 : Int32) (a1 : Int32) (a2 : Int64) (a3 : Int32) (a4 : St), I a0 a1 a2 a3 a4 → m a0 a1 a2 a3 a4 < n → wl_Mod_writeLongs_152 post rec31 n a0 a1 a2 a3 a4 := by
    intro n
    induction n with
    | zero => intro a0 a1 a2 a3 a4 _ h; exact absurd h (Nat.not_lt_zero _)
    | succ n ih => intro a0 a1 a2 a3 a4 h hm; exact step (wl_Mod_writeLongs_152 post rec31 n) a0 a1 a2 a3 a4 h (fun b0 b1 b2 b3 b4 hb hlt => ih b0 b1 b2 b3 b4 hb (Nat.lt_of_lt_of_le hlt (Nat.le_of_lt_succ hm)))
  exact fun a0 a1 a2 a3 a4 h => ⟨_, key _ a0 a1 a2 a3 a4 h (Nat.lt_succ_self _)⟩
theorem lp_Mod_writeLongs_122 {post : St → Prop} {rec31 : Int32 → St → Prop} (I : Int32 → Int32 → Int64 → Int32 → St → Prop) (m : Int32 → Int32 → Int64 → Int32 → St → Nat)
    (step : ∀ (R : Int32 → Int32 → Int64 → Int32 → St → Prop) (a0 : Int32) (a1 : Int32) (a2 : Int64) (a3 : Int32) (a4 : St), I a0 a1 a2 a3 a4 → (∀ (b0 : Int32) (b1 : Int32) (b2 : Int64) (b3 : Int32) (b4 : St), I b0 b1 b2 b3 b4 → m b0 b1 b2 b3 b4 < m a0 a1 a2 a3 a4 → R b0 b1 b2 b3 b4) → j_Mod_writeLongs_122 post rec31 R a0 a1 a2 a3 a4) :
    ∀ (a0 : Int32) (a1 : Int32) (a2 : Int64) (a3 : Int32) (a4 : St), I a0 a1 a2 a3 a4 → ∃ n : Nat, wl_Mod_writeLongs_122 post rec31 n a0 a1 a2 a3 a4 := by
  have key : ∀ (n : Nat) (a0 : Int32) (a1 : Int32) (a2 : Int64) (a3 : Int32) (a4 : St), I a0 a1 a2 a3 a4 → m a0 a1 a2 a3 a4 < n → wl_Mod_writeLongs_122 post rec31 n a0 a1 a2 a3 a4 := by
    intro n
    induction n with
    | zero => intro a0 a1 a2 a3 a4 _ h; exact absurd h (Nat.not_lt_zero _)
    | succ n ih => intro a0 a1 a2 a3 a4 h hm; exact step (wl_Mod_writeLongs_122 post rec31 n) a0 a1 a2 a3 a4 h (fun b0 b1 b2 b3 b4 hb hlt => ih b0 b1 b2 b3 b4 hb (Nat.lt_of_lt_of_le hlt (Nat.le_of_lt_succ hm)))
  exact fun a0 a1 a2 a3 a4 h => ⟨_, key _ a0 a1 a2 a3 a4 h (Nat.lt_succ_self _)⟩
theorem lp_Mod_writeLongs_77 {post : St → Prop} {rec31 : Int32 → St → Prop} (I : Int32 → Int32 → Int64 → Int32 → St → Prop) (m : Int32 → Int32 → Int64 → Int32 → St → Nat)
    (step : ∀ (R : Int32 → Int32 → Int64 → Int32 → St → Prop) (a0 : Int32) (a1 : Int32) (a2 : Int64) (a3 : Int32) (a4 : St), I a0 a1 a2 a3 a4 → (∀ (b0 : Int32) (b1 : Int32) (b2 : Int64) (b3 : Int32) (b4 : St), I b0 b1 b2 b3 b4 → m b0 b1 b2 b3 b4 < m a0 a1 a2 a3 a4 → R b0 b1 b2 b3 b4) → j_Mod_writeLongs_77 post rec31 R a0 a1 a2 a3 a4) :
    ∀ (a0 : Int32) (a1 : Int32) (a2 : Int64) (a3 : Int32) (a4 : St), I a0 a1 a2 a3 a4 → ∃ n : Nat, wl_Mod_writeLongs_77 post rec31 n a0 a1 a2 a3 a4 := by
  have key : ∀ (n : Nat) (a0 : Int32) (a1 : Int32) (a2 : Int64) (a3 : Int32) (a4 : St), I a0 a1 a2 a3 a4 → m a0 a1 a2 a3 a4 < n → wl_Mod_writeLongs_77 post rec31 n a0 a1 a2 a3 a4 := by
    intro n
    induction n with
    | zero => intro a0 a1 a2 a3 a4 _ h; exact absurd h (Nat.not_lt_zero _)
    | succ n ih => intro a0 a1 a2 a3 a4 h hm; exact step (wl_Mod_writeLongs_77 post rec31 n) a0 a1 a2 a3 a4 h (fun b0 b1 b2 b3 b4 hb hlt => ih b0 b1 b2 b3 b4 hb (Nat.lt_of_lt_of_le hlt (Nat.le_of_lt_succ hm)))
  exact fun a0 a1 a2 a3 a4 h => ⟨_, key _ a0 a1 a2 a3 a4 h (Nat.lt_succ_self _)⟩
theorem lp_Mod_writeLongs_31 {post : St → Prop} (I : Int32 → St → Prop) (m : Int32 → St → Nat)
    (step : ∀ (R : Int32 → St → Prop) (a0 : Int32) (a1 : St), I a0 a1 → (∀ (b0 : Int32) (b1 : St), I b0 b1 → m b0 b1 < m a0 a1 → R b0 b1) → j_Mod_writeLongs_31 post R a0 a1) :
    ∀ (a0 : Int32) (a1 : St), I a0 a1 → ∃ n : Nat, wl_Mod_writeLongs_31 post n a0 a1 := by
  have key : ∀ (n : Nat) (a0 : Int32) (a1 : St), I a0 a1 → m a0 a1 < n → wl_Mod_writeLongs_31 post n a0 a1 := by
    intro n
    induction n with
    | zero => intro a0 a1 _ h; exact absurd h (Nat.not_lt_zero _)
    | succ n ih => intro a0 a1 h hm; exact step (wl_Mod_writeLongs_31 post n) a0 a1 h (fun b0 b1 hb hlt => ih b0 b1 hb (Nat.lt_of_lt_of_le hlt (Nat.le_of_lt_succ hm)))
  exact fun a0 a1 h => ⟨_, key _ a0 a1 h (Nat.lt_succ_self _)⟩
theorem lp_Mod_firstWhole_2 {post : Int32 → St → Prop} (I : Int32 → Int32 → St → Prop) (m : Int32 → Int32 → St → Nat)
    (step : ∀ (R : Int32 → Int32 → St → Prop) (a0 : Int32) (a1 : Int32) (a2 : St), I a0 a1 a2 → (∀ (b0 : Int32) (b1 : Int32) (b2 : St), I b0 b1 b2 → m b0 b1 b2 < m a0 a1 a2 → R b0 b1 b2) → j_Mod_firstWhole_2 post R a0 a1 a2) :
    ∀ (a0 : Int32) (a1 : Int32) (a2 : St), I a0 a1 a2 → ∃ n : Nat, wl_Mod_firstWhole_2 post n a0 a1 a2 := by
  have key : ∀ (n : Nat) (a0 : Int32) (a1 : Int32) (a2 : St), I a0 a1 a2 → m a0 a1 a2 < n → wl_Mod_firstWhole_2 post n a0 a1 a2 := by
    intro n
    induction n with
    | zero => intro a0 a1 a2 _ h; exact absurd h (Nat.not_lt_zero _)
    | succ n ih => intro a0 a1 a2 h hm; exact step (wl_Mod_firstWhole_2 post n) a0 a1 a2 h (fun b0 b1 b2 hb hlt => ih b0 b1 b2 hb (Nat.lt_of_lt_of_le hlt (Nat.le_of_lt_succ hm)))
  exact fun a0 a1 a2 h => ⟨_, key _ a0 a1 a2 h (Nat.lt_succ_self _)⟩
theorem lp_Mod_writeWholes_194 {post : St → Prop} (I : Int32 → Int32 → Int32 → St → Prop) (m : Int32 → Int32 → Int32 → St → Nat)
    (step : ∀ (R : Int32 → Int32 → Int32 → St → Prop) (a0 : Int32) (a1 : Int32) (a2 : Int32) (a3 : St), I a0 a1 a2 a3 → (∀ (b0 : Int32) (b1 : Int32) (b2 : Int32) (b3 : St), I b0 b1 b2 b3 → m b0 b1 b2 b3 < m a0 a1 a2 a3 → R b0 b1 b2 b3) → j_Mod_writeWholes_194 post R a0 a1 a2 a3) :
    ∀ (a0 : Int32) (a1 : Int32) (a2 : Int32) (a3 : St), I a0 a1 a2 a3 → ∃ n : Nat, wl_Mod_writeWholes_194 post n a0 a1 a2 a3 := by
  have key : ∀ (n : Nat) (a0 : Int32) (a1 : Int32) (a2 : Int32) (a3 : St), I a0 a1 a2 a3 → m a0 a1 a2 a3 < n → wl_Mod_writeWholes_194 post n a0 a1 a2 a3 := by
    intro n
    induction n with
    | zero => intro a0 a1 a2 a3 _ h; exact absurd h (Nat.not_lt_zero _)
    | succ n ih => intro a0 a1 a2 a3 h hm; exact step (wl_Mod_writeWholes_194 post n) a0 a1 a2 a3 h (fun b0 b1 b2 b3 hb hlt => ih b0 b1 b2 b3 hb (Nat.lt_of_lt_of_le hlt (Nat.le_of_lt_succ hm)))
  exact fun a0 a1 a2 a3 h => ⟨_, key _ a0 a1 a2 a3 h (Nat.lt_succ_self _)⟩
theorem lp_Mod_writeWholes_155 {post : St → Prop} (I : Int32 → Int32 → Int32 → St → Prop) (m : Int32 → Int32 → Int32 → St → Nat)
    (step : ∀ (R : Int32 → Int32 → Int32 → St → Prop) (a0 : Int32) (a1 : Int32) (a2 : Int32) (a3 : St), I a0 a1 a2 a3 → (∀ (b0 : Int32) (b1 : Int32) (b2 : Int32) (b3 : St), I b0 b1 b2 b3 → m b0 b1 b2 b3 < m a0 a1 a2 a3 → R b0 b1 b2 b3) → j_Mod_writeWholes_155 post R a0 a1 a2 a3) :
    ∀ (a0 : Int32) (a1 : Int32) (a2 : Int32) (a3 : St), I a0 a1 a2 a3 → ∃ n : Nat, wl_Mod_writeWholes_155 post n a0 a1 a2 a3 := by
  have key : ∀ (n : Nat) (a0 : Int32) (a1 : Int32) (a2 : Int32) (a3 : St), I a0 a1 a2 a3 → m a0 a1 a2 a3 < n → wl_Mod_writeWholes_155 post n a0 a1 a2 a3 := by
    intro n
    induction n with
    | zero => intro a0 a1 a2 a3 _ h; exact absurd h (Nat.not_lt_zero _)
    | succ n ih => intro a0 a1 a2 a3 h hm; exact step (wl_Mod_writeWholes_155 post n) a0 a1 a2 a3 h (fun b0 b1 b2 b3 hb hlt => ih b0 b1 b2 b3 hb (Nat.lt_of_lt_of_le hlt (Nat.le_of_lt_succ hm)))
  exact fun a0 a1 a2 a3 h => ⟨_, key _ a0 a1 a2 a3 h (Nat.lt_succ_self _)⟩
theorem lp_Mod_writeWholes_89 {post : St → Prop} (I : Int32 → Int32 → Int32 → St → Prop) (m : Int32 → Int32 → Int32 → St → Nat)
    (step : ∀ (R : Int32 → Int32 → Int32 → St → Prop) (a0 : Int32) (a1 : Int32) (a2 : Int32) (a3 : St), I a0 a1 a2 a3 → (∀ (b0 : Int32) (b1 : Int32) (b2 : Int32) (b3 : St), I b0 b1 b2 b3 → m b0 b1 b2 b3 < m a0 a1 a2 a3 → R b0 b1 b2 b3) → j_Mod_writeWholes_89 post R a0 a1 a2 a3) :
    ∀ (a0 : Int32) (a1 : Int32) (a2 : Int32) (a3 : St), I a0 a1 a2 a3 → ∃ n : Nat, wl_Mod_writeWholes_89 post n a0 a1 a2 a3 := by
  have key : ∀ (n : Nat) (a0 : Int32) (a1 : Int32) (a2 : Int32) (a3 : St), I a0 a1 a2 a3 → m a0 a1 a2 a3 < n → wl_Mod_writeWholes_89 post n a0 a1 a2 a3 := by
    intro n
    induction n with
    | zero => intro a0 a1 a2 a3 _ h; exact absurd h (Nat.not_lt_zero _)
    | succ n ih => intro a0 a1 a2 a3 h hm; exact step (wl_Mod_writeWholes_89 post n) a0 a1 a2 a3 h (fun b0 b1 b2 b3 hb hlt => ih b0 b1 b2 b3 hb (Nat.lt_of_lt_of_le hlt (Nat.le_of_lt_succ hm)))
  exact fun a0 a1 a2 a3 h => ⟨_, key _ a0 a1 a2 a3 h (Nat.lt_succ_self _)⟩
theorem lp_Mod_writeWholes_52 {post : St → Prop} (I : Int32 → Int32 → St → Prop) (m : Int32 → Int32 → St → Nat)
    (step : ∀ (R : Int32 → Int32 → St → Prop) (a0 : Int32) (a1 : Int32) (a2 : St), I a0 a1 a2 → (∀ (b0 : Int32) (b1 : Int32) (b2 : St), I b0 b1 b2 → m b0 b1 b2 < m a0 a1 a2 → R b0 b1 b2) → j_Mod_writeWholes_52 post R a0 a1 a2) :
    ∀ (a0 : Int32) (a1 : Int32) (a2 : St), I a0 a1 a2 → ∃ n : Nat, wl_Mod_writeWholes_52 post n a0 a1 a2 := by
  have key : ∀ (n : Nat) (a0 : Int32) (a1 : Int32) (a2 : St), I a0 a1 a2 → m a0 a1 a2 < n → wl_Mod_writeWholes_52 post n a0 a1 a2 := by
    intro n
    induction n with
    | zero => intro a0 a1 a2 _ h; exact absurd h (Nat.not_lt_zero _)
    | succ n ih => intro a0 a1 a2 h hm; exact step (wl_Mod_writeWholes_52 post n) a0 a1 a2 h (fun b0 b1 b2 hb hlt => ih b0 b1 b2 hb (Nat.lt_of_lt_of_le hlt (Nat.le_of_lt_succ hm)))
  exact fun a0 a1 a2 h => ⟨_, key _ a0 a1 a2 h (Nat.lt_succ_self _)⟩
theorem lp_Mod_writeWholes_6 {post : St → Prop} (I : Int32 → Int32 → St → Prop) (m : Int32 → Int32 → St → Nat)
    (step : ∀ (R : Int32 → Int32 → St → Prop) (a0 : Int32) (a1 : Int32) (a2 : St), I a0 a1 a2 → (∀ (b0 : Int32) (b1 : Int32) (b2 : St), I b0 b1 b2 → m b0 b1 b2 < m a0 a1 a2 → R b0 b1 b2) → j_Mod_writeWholes_6 post R a0 a1 a2) :
    ∀ (a0 : Int32) (a1 : Int32) (a2 : St), I a0 a1 a2 → ∃ n : Nat, wl_Mod_writeWholes_6 post n a0 a1 a2 := by
  have key : ∀ (n : Nat) (a0 : Int32) (a1 : Int32) (a2 : St), I a0 a1 a2 → m a0 a1 a2 < n → wl_Mod_writeWholes_6 post n a0 a1 a2 := by
    intro n
    induction n with
    | zero => intro a0 a1 a2 _ h; exact absurd h (Nat.not_lt_zero _)
    | succ n ih => intro a0 a1 a2 h hm; exact step (wl_Mod_writeWholes_6 post n) a0 a1 a2 h (fun b0 b1 b2 hb hlt => ih b0 b1 b2 hb (Nat.lt_of_lt_of_le hlt (Nat.le_of_lt_succ hm)))
  exact fun a0 a1 a2 h => ⟨_, key _ a0 a1 a2 h (Nat.lt_succ_self _)⟩
theorem lp_Mod_writeLengths_42 {post : St → Prop} (I : Int32 → St → Prop) (m : Int32 → St → Nat)
    (step : ∀ (R : Int32 → St → Prop) (a0 : Int32) (a1 : St), I a0 a1 → (∀ (b0 : Int32) (b1 : St), I b0 b1 → m b0 b1 < m a0 a1 → R b0 b1) → j_Mod_writeLengths_42 post R a0 a1) :
    ∀ (a0 : Int32) (a1 : St), I a0 a1 → ∃ n : Nat, wl_Mod_writeLengths_42 post n a0 a1 := by
  have key : ∀ (n : Nat) (a0 : Int32) (a1 : St), I a0 a1 → m a0 a1 < n → wl_Mod_writeLengths_42 post n a0 a1 := by
    intro n
    induction n with
    | zero => intro a0 a1 _ h; exact absurd h (Nat.not_lt_zero _)
    | succ n ih => intro a0 a1 h hm; exact step (wl_Mod_writeLengths_42 post n) a0 a1 h (fun b0 b1 hb hlt => ih b0 b1 hb (Nat.lt_of_lt_of_le hlt (Nat.le_of_lt_succ hm)))
  exact fun a0 a1 h => ⟨_, key _ a0 a1 h (Nat.lt_succ_self _)⟩
theorem lp_Mod_writeLengths_10 {post : St → Prop} (I : Int32 → St → Prop) (m : Int32 → St → Nat)
    (step : ∀ (R : Int32 → St → Prop) (a0 : Int32) (a1 : St), I a0 a1 → (∀ (b0 : Int32) (b1 : St), I b0 b1 → m b0 b1 < m a0 a1 → R b0 b1) → j_Mod_writeLengths_10 post R a0 a1) :
    ∀ (a0 : Int32) (a1 : St), I a0 a1 → ∃ n : Nat, wl_Mod_writeLengths_10 post n a0 a1 := by
  have key : ∀ (n : Nat) (a0 : Int32) (a1 : St), I a0 a1 → m a0 a1 < n → wl_Mod_writeLengths_10 post n a0 a1 := by
    intro n
    induction n with
    | zero => intro a0 a1 _ h; exact absurd h (Nat.not_lt_zero _)
    | succ n ih => intro a0 a1 h hm; exact step (wl_Mod_writeLengths_10 post n) a0 a1 h (fun b0 b1 hb hlt => ih b0 b1 hb (Nat.lt_of_lt_of_le hlt (Nat.le_of_lt_succ hm)))
  exact fun a0 a1 h => ⟨_, key _ a0 a1 h (Nat.lt_succ_self _)⟩
theorem lp_Mod_inCommon_2 {post : Int32 → St → Prop} (I : Int32 → Int32 → St → Prop) (m : Int32 → Int32 → St → Nat)
    (step : ∀ (R : Int32 → Int32 → St → Prop) (a0 : Int32) (a1 : Int32) (a2 : St), I a0 a1 a2 → (∀ (b0 : Int32) (b1 : Int32) (b2 : St), I b0 b1 b2 → m b0 b1 b2 < m a0 a1 a2 → R b0 b1 b2) → j_Mod_inCommon_2 post R a0 a1 a2) :
    ∀ (a0 : Int32) (a1 : Int32) (a2 : St), I a0 a1 a2 → ∃ n : Nat, wl_Mod_inCommon_2 post n a0 a1 a2 := by
  have key : ∀ (n : Nat) (a0 : Int32) (a1 : Int32) (a2 : St), I a0 a1 a2 → m a0 a1 a2 < n → wl_Mod_inCommon_2 post n a0 a1 a2 := by
    intro n
    induction n with
    | zero => intro a0 a1 a2 _ h; exact absurd h (Nat.not_lt_zero _)
    | succ n ih => intro a0 a1 a2 h hm; exact step (wl_Mod_inCommon_2 post n) a0 a1 a2 h (fun b0 b1 b2 hb hlt => ih b0 b1 b2 hb (Nat.lt_of_lt_of_le hlt (Nat.le_of_lt_succ hm)))
  exact fun a0 a1 a2 h => ⟨_, key _ a0 a1 a2 h (Nat.lt_succ_self _)⟩
theorem lp_Mod_writeFront_101 {post : St → Prop} {rec80 : Int32 → St → Prop} (I : Int32 → Int32 → St → Prop) (m : Int32 → Int32 → St → Nat)
    (step : ∀ (R : Int32 → Int32 → St → Prop) (a0 : Int32) (a1 : Int32) (a2 : St), I a0 a1 a2 → (∀ (b0 : Int32) (b1 : Int32) (b2 : St), I b0 b1 b2 → m b0 b1 b2 < m a0 a1 a2 → R b0 b1 b2) → j_Mod_writeFront_101 post rec80 R a0 a1 a2) :
    ∀ (a0 : Int32) (a1 : Int32) (a2 : St), I a0 a1 a2 → ∃ n : Nat, wl_Mod_writeFront_101 post rec80 n a0 a1 a2 := by
  have key : ∀ (n : Nat) (a0 : Int32) (a1 : Int32) (a2 : St), I a0 a1 a2 → m a0 a1 a2 < n → wl_Mod_writeFront_101 post rec80 n a0 a1 a2 := by
    intro n
    induction n with
    | zero => intro a0 a1 a2 _ h; exact absurd h (Nat.not_lt_zero _)
    | succ n ih => intro a0 a1 a2 h hm; exact step (wl_Mod_writeFront_101 post rec80 n) a0 a1 a2 h (fun b0 b1 b2 hb hlt => ih b0 b1 b2 hb (Nat.lt_of_lt_of_le hlt (Nat.le_of_lt_succ hm)))
  exact fun a0 a1 a2 h => ⟨_, key _ a0 a1 a2 h (Nat.lt_succ_self _)⟩
theorem lp_Mod_writeFront_80 {post : St → Prop} (I : Int32 → St → Prop) (m : Int32 → St → Nat)
    (step : ∀ (R : Int32 → St → Prop) (a0 : Int32) (a1 : St), I a0 a1 → (∀ (b0 : Int32) (b1 : St), I b0 b1 → m b0 b1 < m a0 a1 → R b0 b1) → j_Mod_writeFront_80 post R a0 a1) :
    ∀ (a0 : Int32) (a1 : St), I a0 a1 → ∃ n : Nat, wl_Mod_writeFront_80 post n a0 a1 := by
  have key : ∀ (n : Nat) (a0 : Int32) (a1 : St), I a0 a1 → m a0 a1 < n → wl_Mod_writeFront_80 post n a0 a1 := by
    intro n
    induction n with
    | zero => intro a0 a1 _ h; exact absurd h (Nat.not_lt_zero _)
    | succ n ih => intro a0 a1 h hm; exact step (wl_Mod_writeFront_80 post n) a0 a1 h (fun b0 b1 hb hlt => ih b0 b1 hb (Nat.lt_of_lt_of_le hlt (Nat.le_of_lt_succ hm)))
  exact fun a0 a1 h => ⟨_, key _ a0 a1 h (Nat.lt_succ_self _)⟩
theorem lp_Mod_writeFront_42 {post : St → Prop} (I : Int32 → St → Prop) (m : Int32 → St → Nat)
    (step : ∀ (R : Int32 → St → Prop) (a0 : Int32) (a1 : St), I a0 a1 → (∀ (b0 : Int32) (b1 : St), I b0 b1 → m b0 b1 < m a0 a1 → R b0 b1) → j_Mod_writeFront_42 post R a0 a1) :
    ∀ (a0 : Int32) (a1 : St), I a0 a1 → ∃ n : Nat, wl_Mod_writeFront_42 post n a0 a1 := by
  have key : ∀ (n : Nat) (a0 : Int32) (a1 : St), I a0 a1 → m a0 a1 < n → wl_Mod_writeFront_42 post n a0 a1 := by
    intro n
    induction n with
    | zero => intro a0 a1 _ h; exact absurd h (Nat.not_lt_zero _)
    | succ n ih => intro a0 a1 h hm; exact step (wl_Mod_writeFront_42 post n) a0 a1 h (fun b0 b1 hb hlt => ih b0 b1 hb (Nat.lt_of_lt_of_le hlt (Nat.le_of_lt_succ hm)))
  exact fun a0 a1 h => ⟨_, key _ a0 a1 h (Nat.lt_succ_self _)⟩
theorem lp_Mod_writeFront_10 {post : St → Prop} (I : Int32 → St → Prop) (m : Int32 → St → Nat)
    (step : ∀ (R : Int32 → St → Prop) (a0 : Int32) (a1 : St), I a0 a1 → (∀ (b0 : Int32) (b1 : St), I b0 b1 → m b0 b1 < m a0 a1 → R b0 b1) → j_Mod_writeFront_10 post R a0 a1) :
    ∀ (a0 : Int32) (a1 : St), I a0 a1 → ∃ n : Nat, wl_Mod_writeFront_10 post n a0 a1 := by
  have key : ∀ (n : Nat) (a0 : Int32) (a1 : St), I a0 a1 → m a0 a1 < n → wl_Mod_writeFront_10 post n a0 a1 := by
    intro n
    induction n with
    | zero => intro a0 a1 _ h; exact absurd h (Nat.not_lt_zero _)
    | succ n ih => intro a0 a1 h hm; exact step (wl_Mod_writeFront_10 post n) a0 a1 h (fun b0 b1 hb hlt => ih b0 b1 hb (Nat.lt_of_lt_of_le hlt (Nat.le_of_lt_succ hm)))
  exact fun a0 a1 h => ⟨_, key _ a0 a1 h (Nat.lt_succ_self _)⟩
theorem lp_Mod_sameText_22 {post : Int32 → St → Prop} (I : Int32 → Int32 → Int32 → Int32 → St → Prop) (m : Int32 → Int32 → Int32 → Int32 → St → Nat)
    (step : ∀ (R : Int32 → Int32 → Int32 → Int32 → St → Prop) (a0 : Int32) (a1 : Int32) (a2 : Int32) (a3 : Int32) (a4 : St), I a0 a1 a2 a3 a4 → (∀ (b0 : Int32) (b1 : Int32) (b2 : Int32) (b3 : Int32) (b4 : St), I b0 b1 b2 b3 b4 → m b0 b1 b2 b3 b4 < m a0 a1 a2 a3 a4 → R b0 b1 b2 b3 b4) → j_Mod_sameText_22 post R a0 a1 a2 a3 a4) :
    ∀ (a0 : Int32) (a1 : Int32) (a2 : Int32) (a3 : Int32) (a4 : St), I a0 a1 a2 a3 a4 → ∃ n : Nat, wl_Mod_sameText_22 post n a0 a1 a2 a3 a4 := by
  have key : ∀ (n : Nat) (a0 : Int32) (a1 : Int32) (a2 : Int32) (a3 : Int32) (a4 : St), I a0 a1 a2 a3 a4 → m a0 a1 a2 a3 a4 < n → wl_Mod_sameText_22 post n a0 a1 a2 a3 a4 := by
    intro n
    induction n with
    | zero => intro a0 a1 a2 a3 a4 _ h; exact absurd h (Nat.not_lt_zero _)
    | succ n ih => intro a0 a1 a2 a3 a4 h hm; exact step (wl_Mod_sameText_22 post n) a0 a1 a2 a3 a4 h (fun b0 b1 b2 b3 b4 hb hlt => ih b0 b1 b2 b3 b4 hb (Nat.lt_of_lt_of_le hlt (Nat.le_of_lt_succ hm)))
  exact fun a0 a1 a2 a3 a4 h => ⟨_, key _ a0 a1 a2 a3 a4 h (Nat.lt_succ_self _)⟩
theorem lp_Mod_firstLike_2 {post : Int32 → St → Prop} (I : Int32 → Int32 → St → Prop) (m : Int32 → Int32 → St → Nat)
    (step : ∀ (R : Int32 → Int32 → St → Prop) (a0 : Int32) (a1 : Int32) (a2 : St), I a0 a1 a2 → (∀ (b0 : Int32) (b1 : Int32) (b2 : St), I b0 b1 b2 → m b0 b1 b2 < m a0 a1 a2 → R b0 b1 b2) → j_Mod_firstLike_2 post R a0 a1 a2) :
    ∀ (a0 : Int32) (a1 : Int32) (a2 : St), I a0 a1 a2 → ∃ n : Nat, wl_Mod_firstLike_2 post n a0 a1 a2 := by
  have key : ∀ (n : Nat) (a0 : Int32) (a1 : Int32) (a2 : St), I a0 a1 a2 → m a0 a1 a2 < n → wl_Mod_firstLike_2 post n a0 a1 a2 := by
    intro n
    induction n with
    | zero => intro a0 a1 a2 _ h; exact absurd h (Nat.not_lt_zero _)
    | succ n ih => intro a0 a1 a2 h hm; exact step (wl_Mod_firstLike_2 post n) a0 a1 a2 h (fun b0 b1 b2 hb hlt => ih b0 b1 b2 hb (Nat.lt_of_lt_of_le hlt (Nat.le_of_lt_succ hm)))
  exact fun a0 a1 a2 h => ⟨_, key _ a0 a1 a2 h (Nat.lt_succ_self _)⟩
theorem lp_Mod_putText_17 {post : St → Prop} (I : Int32 → Int32 → St → Prop) (m : Int32 → Int32 → St → Nat)
    (step : ∀ (R : Int32 → Int32 → St → Prop) (a0 : Int32) (a1 : Int32) (a2 : St), I a0 a1 a2 → (∀ (b0 : Int32) (b1 : Int32) (b2 : St), I b0 b1 b2 → m b0 b1 b2 < m a0 a1 a2 → R b0 b1 b2) → j_Mod_putText_17 post R a0 a1 a2) :
    ∀ (a0 : Int32) (a1 : Int32) (a2 : St), I a0 a1 a2 → ∃ n : Nat, wl_Mod_putText_17 post n a0 a1 a2 := by
  have key : ∀ (n : Nat) (a0 : Int32) (a1 : Int32) (a2 : St), I a0 a1 a2 → m a0 a1 a2 < n → wl_Mod_putText_17 post n a0 a1 a2 := by
    intro n
    induction n with
    | zero => intro a0 a1 a2 _ h; exact absurd h (Nat.not_lt_zero _)
    | succ n ih => intro a0 a1 a2 h hm; exact step (wl_Mod_putText_17 post n) a0 a1 a2 h (fun b0 b1 b2 hb hlt => ih b0 b1 b2 hb (Nat.lt_of_lt_of_le hlt (Nat.le_of_lt_succ hm)))
  exact fun a0 a1 a2 h => ⟨_, key _ a0 a1 a2 h (Nat.lt_succ_self _)⟩
theorem lp_Mod_writeDictionary_96 {post : St → Prop} (I : Int32 → Int32 → St → Prop) (m : Int32 → Int32 → St → Nat)
    (step : ∀ (R : Int32 → Int32 → St → Prop) (a0 : Int32) (a1 : Int32) (a2 : St), I a0 a1 a2 → (∀ (b0 : Int32) (b1 : Int32) (b2 : St), I b0 b1 b2 → m b0 b1 b2 < m a0 a1 a2 → R b0 b1 b2) → j_Mod_writeDictionary_96 post R a0 a1 a2) :
    ∀ (a0 : Int32) (a1 : Int32) (a2 : St), I a0 a1 a2 → ∃ n : Nat, wl_Mod_writeDictionary_96 post n a0 a1 a2 := by
  have key : ∀ (n : Nat) (a0 : Int32) (a1 : Int32) (a2 : St), I a0 a1 a2 → m a0 a1 a2 < n → wl_Mod_writeDictionary_96 post n a0 a1 a2 := by
    intro n
    induction n with
    | zero => intro a0 a1 a2 _ h; exact absurd h (Nat.not_lt_zero _)
    | succ n ih => intro a0 a1 a2 h hm; exact step (wl_Mod_writeDictionary_96 post n) a0 a1 a2 h (fun b0 b1 b2 hb hlt => ih b0 b1 b2 hb (Nat.lt_of_lt_of_le hlt (Nat.le_of_lt_succ hm)))
  exact fun a0 a1 a2 h => ⟨_, key _ a0 a1 a2 h (Nat.lt_succ_self _)⟩
theorem lp_Mod_writeDictionary_66 {post : St → Prop} (I : Int32 → Int32 → St → Prop) (m : Int32 → Int32 → St → Nat)
    (step : ∀ (R : Int32 → Int32 → St → Prop) (a0 : Int32) (a1 : Int32) (a2 : St), I a0 a1 a2 → (∀ (b0 : Int32) (b1 : Int32) (b2 : St), I b0 b1 b2 → m b0 b1 b2 < m a0 a1 a2 → R b0 b1 b2) → j_Mod_writeDictionary_66 post R a0 a1 a2) :
    ∀ (a0 : Int32) (a1 : Int32) (a2 : St), I a0 a1 a2 → ∃ n : Nat, wl_Mod_writeDictionary_66 post n a0 a1 a2 := by
  have key : ∀ (n : Nat) (a0 : Int32) (a1 : Int32) (a2 : St), I a0 a1 a2 → m a0 a1 a2 < n → wl_Mod_writeDictionary_66 post n a0 a1 a2 := by
    intro n
    induction n with
    | zero => intro a0 a1 a2 _ h; exact absurd h (Nat.not_lt_zero _)
    | succ n ih => intro a0 a1 a2 h hm; exact step (wl_Mod_writeDictionary_66 post n) a0 a1 a2 h (fun b0 b1 b2 hb hlt => ih b0 b1 b2 hb (Nat.lt_of_lt_of_le hlt (Nat.le_of_lt_succ hm)))
  exact fun a0 a1 a2 h => ⟨_, key _ a0 a1 a2 h (Nat.lt_succ_self _)⟩
theorem lp_Mod_writeDictionary_4 {post : St → Prop} (I : Int32 → Int32 → St → Prop) (m : Int32 → Int32 → St → Nat)
    (step : ∀ (R : Int32 → Int32 → St → Prop) (a0 : Int32) (a1 : Int32) (a2 : St), I a0 a1 a2 → (∀ (b0 : Int32) (b1 : Int32) (b2 : St), I b0 b1 b2 → m b0 b1 b2 < m a0 a1 a2 → R b0 b1 b2) → j_Mod_writeDictionary_4 post R a0 a1 a2) :
    ∀ (a0 : Int32) (a1 : Int32) (a2 : St), I a0 a1 a2 → ∃ n : Nat, wl_Mod_writeDictionary_4 post n a0 a1 a2 := by
  have key : ∀ (n : Nat) (a0 : Int32) (a1 : Int32) (a2 : St), I a0 a1 a2 → m a0 a1 a2 < n → wl_Mod_writeDictionary_4 post n a0 a1 a2 := by
    intro n
    induction n with
    | zero => intro a0 a1 a2 _ h; exact absurd h (Nat.not_lt_zero _)
    | succ n ih => intro a0 a1 a2 h hm; exact step (wl_Mod_writeDictionary_4 post n) a0 a1 a2 h (fun b0 b1 b2 hb hlt => ih b0 b1 b2 hb (Nat.lt_of_lt_of_le hlt (Nat.le_of_lt_succ hm)))
  exact fun a0 a1 a2 h => ⟨_, key _ a0 a1 a2 h (Nat.lt_succ_self _)⟩
theorem lp_Mod_writeValues_66 {post : St → Prop} (I : Int32 → Int32 → St → Prop) (m : Int32 → Int32 → St → Nat)
    (step : ∀ (R : Int32 → Int32 → St → Prop) (a0 : Int32) (a1 : Int32) (a2 : St), I a0 a1 a2 → (∀ (b0 : Int32) (b1 : Int32) (b2 : St), I b0 b1 b2 → m b0 b1 b2 < m a0 a1 a2 → R b0 b1 b2) → j_Mod_writeValues_66 post R a0 a1 a2) :
    ∀ (a0 : Int32) (a1 : Int32) (a2 : St), I a0 a1 a2 → ∃ n : Nat, wl_Mod_writeValues_66 post n a0 a1 a2 := by
  have key : ∀ (n : Nat) (a0 : Int32) (a1 : Int32) (a2 : St), I a0 a1 a2 → m a0 a1 a2 < n → wl_Mod_writeValues_66 post n a0 a1 a2 := by
    intro n
    induction n with
    | zero => intro a0 a1 a2 _ h; exact absurd h (Nat.not_lt_zero _)
    | succ n ih => intro a0 a1 a2 h hm; exact step (wl_Mod_writeValues_66 post n) a0 a1 a2 h (fun b0 b1 b2 hb hlt => ih b0 b1 b2 hb (Nat.lt_of_lt_of_le hlt (Nat.le_of_lt_succ hm)))
  exact fun a0 a1 a2 h => ⟨_, key _ a0 a1 a2 h (Nat.lt_succ_self _)⟩
theorem lp_Mod_putLevels_7 {post : St → Prop} (I : Nat → Int32 → Int32 → St → Prop) (m : Nat → Int32 → Int32 → St → Nat)
    (step : ∀ (R : Nat → Int32 → Int32 → St → Prop) (a0 : Nat) (a1 : Int32) (a2 : Int32) (a3 : St), I a0 a1 a2 a3 → (∀ (b0 : Nat) (b1 : Int32) (b2 : Int32) (b3 : St), I b0 b1 b2 b3 → m b0 b1 b2 b3 < m a0 a1 a2 a3 → R b0 b1 b2 b3) → j_Mod_putLevels_7 post R a0 a1 a2 a3) :
    ∀ (a0 : Nat) (a1 : Int32) (a2 : Int32) (a3 : St), I a0 a1 a2 a3 → ∃ n : Nat, wl_Mod_putLevels_7 post n a0 a1 a2 a3 := by
  have key : ∀ (n : Nat) (a0 : Nat) (a1 : Int32) (a2 : Int32) (a3 : St), I a0 a1 a2 a3 → m a0 a1 a2 a3 < n → wl_Mod_putLevels_7 post n a0 a1 a2 a3 := by
    intro n
    induction n with
    | zero => intro a0 a1 a2 a3 _ h; exact absurd h (Nat.not_lt_zero _)
    | succ n ih => intro a0 a1 a2 a3 h hm; exact step (wl_Mod_putLevels_7 post n) a0 a1 a2 a3 h (fun b0 b1 b2 b3 hb hlt => ih b0 b1 b2 b3 hb (Nat.lt_of_lt_of_le hlt (Nat.le_of_lt_succ hm)))
  exact fun a0 a1 a2 a3 h => ⟨_, key _ a0 a1 a2 a3 h (Nat.lt_succ_self _)⟩
theorem lp_Mod_compareValues_52 {post : Int32 → St → Prop} (I : Int32 → Int32 → Int32 → St → Prop) (m : Int32 → Int32 → Int32 → St → Nat)
    (step : ∀ (R : Int32 → Int32 → Int32 → St → Prop) (a0 : Int32) (a1 : Int32) (a2 : Int32) (a3 : St), I a0 a1 a2 a3 → (∀ (b0 : Int32) (b1 : Int32) (b2 : Int32) (b3 : St), I b0 b1 b2 b3 → m b0 b1 b2 b3 < m a0 a1 a2 a3 → R b0 b1 b2 b3) → j_Mod_compareValues_52 post R a0 a1 a2 a3) :
    ∀ (a0 : Int32) (a1 : Int32) (a2 : Int32) (a3 : St), I a0 a1 a2 a3 → ∃ n : Nat, wl_Mod_compareValues_52 post n a0 a1 a2 a3 := by
  have key : ∀ (n : Nat) (a0 : Int32) (a1 : Int32) (a2 : Int32) (a3 : St), I a0 a1 a2 a3 → m a0 a1 a2 a3 < n → wl_Mod_compareValues_52 post n a0 a1 a2 a3 := by
    intro n
    induction n with
    | zero => intro a0 a1 a2 a3 _ h; exact absurd h (Nat.not_lt_zero _)
    | succ n ih => intro a0 a1 a2 a3 h hm; exact step (wl_Mod_compareValues_52 post n) a0 a1 a2 a3 h (fun b0 b1 b2 b3 hb hlt => ih b0 b1 b2 b3 hb (Nat.lt_of_lt_of_le hlt (Nat.le_of_lt_succ hm)))
  exact fun a0 a1 a2 a3 h => ⟨_, key _ a0 a1 a2 a3 h (Nat.lt_succ_self _)⟩
theorem lp_Mod_mostOf_15 {post : Int32 → St → Prop} (I : Int32 → Int32 → Int32 → St → Prop) (m : Int32 → Int32 → Int32 → St → Nat)
    (step : ∀ (R : Int32 → Int32 → Int32 → St → Prop) (a0 : Int32) (a1 : Int32) (a2 : Int32) (a3 : St), I a0 a1 a2 a3 → (∀ (b0 : Int32) (b1 : Int32) (b2 : Int32) (b3 : St), I b0 b1 b2 b3 → m b0 b1 b2 b3 < m a0 a1 a2 a3 → R b0 b1 b2 b3) → j_Mod_mostOf_15 post R a0 a1 a2 a3) :
    ∀ (a0 : Int32) (a1 : Int32) (a2 : Int32) (a3 : St), I a0 a1 a2 a3 → ∃ n : Nat, wl_Mod_mostOf_15 post n a0 a1 a2 a3 := by
  have key : ∀ (n : Nat) (a0 : Int32) (a1 : Int32) (a2 : Int32) (a3 : St), I a0 a1 a2 a3 → m a0 a1 a2 a3 < n → wl_Mod_mostOf_15 post n a0 a1 a2 a3 := by
    intro n
    induction n with
    | zero => intro a0 a1 a2 a3 _ h; exact absurd h (Nat.not_lt_zero _)
    | succ n ih => intro a0 a1 a2 a3 h hm; exact step (wl_Mod_mostOf_15 post n) a0 a1 a2 a3 h (fun b0 b1 b2 b3 hb hlt => ih b0 b1 b2 b3 hb (Nat.lt_of_lt_of_le hlt (Nat.le_of_lt_succ hm)))
  exact fun a0 a1 a2 a3 h => ⟨_, key _ a0 a1 a2 a3 h (Nat.lt_succ_self _)⟩
theorem lp_Mod_check_14 {post : Int32 → St → Prop} {rec5 : Nat → Int32 → Int32 → Int32 → Int32 → St → Prop} (I : Nat → Int32 → Int32 → Int32 → Int32 → Int32 → St → Prop) (m : Nat → Int32 → Int32 → Int32 → Int32 → Int32 → St → Nat)
    (step : ∀ (R : Nat → Int32 → Int32 → Int32 → Int32 → Int32 → St → Prop) (a0 : Nat) (a1 : Int32) (a2 : Int32) (a3 : Int32) (a4 : Int32) (a5 : Int32) (a6 : St), I a0 a1 a2 a3 a4 a5 a6 → (∀ (b0 : Nat) (b1 : Int32) (b2 : Int32) (b3 : Int32) (b4 : Int32) (b5 : Int32) (b6 : St), I b0 b1 b2 b3 b4 b5 b6 → m b0 b1 b2 b3 b4 b5 b6 < m a0 a1 a2 a3 a4 a5 a6 → R b0 b1 b2 b3 b4 b5 b6) → j_Mod_check_14 post rec5 R a0 a1 a2 a3 a4 a5 a6) :
    ∀ (a0 : Nat) (a1 : Int32) (a2 : Int32) (a3 : Int32) (a4 : Int32) (a5 : Int32) (a6 : St), I a0 a1 a2 a3 a4 a5 a6 → ∃ n : Nat, wl_Mod_check_14 post rec5 n a0 a1 a2 a3 a4 a5 a6 := by
  have key : ∀ (n : Nat) (a0 : Nat) (a1 : Int32) (a2 : Int32) (a3 : Int32) (a4 : Int32) (a5 : Int32) (a6 : St), I a0 a1 a2 a3 a4 a5 a6 → m a0 a1 a2 a3 a4 a5 a6 < n → wl_Mod_check_14 post rec5 n a0 a1 a2 a3 a4 a5 a6 := by
    intro n
    induction n with
    | zero => intro a0 a1 a2 a3 a4 a5 a6 _ h; exact absurd h (Nat.not_lt_zero _)
    | succ n ih => intro a0 a1 a2 a3 a4 a5 a6 h hm; exact step (wl_Mod_check_14 post rec5 n) a0 a1 a2 a3 a4 a5 a6 h (fun b0 b1 b2 b3 b4 b5 b6 hb hlt => ih b0 b1 b2 b3 b4 b5 b6 hb (Nat.lt_of_lt_of_le hlt (Nat.le_of_lt_succ hm)))
  exact fun a0 a1 a2 a3 a4 a5 a6 h => ⟨_, key _ a0 a1 a2 a3 a4 a5 a6 h (Nat.lt_succ_self _)⟩
theorem lp_Mod_check_5 {post : Int32 → St → Prop} (I : Nat → Int32 → Int32 → Int32 → Int32 → St → Prop) (m : Nat → Int32 → Int32 → Int32 → Int32 → St → Nat)
    (step : ∀ (R : Nat → Int32 → Int32 → Int32 → Int32 → St → Prop) (a0 : Nat) (a1 : Int32) (a2 : Int32) (a3 : Int32) (a4 : Int32) (a5 : St), I a0 a1 a2 a3 a4 a5 → (∀ (b0 : Nat) (b1 : Int32) (b2 : Int32) (b3 : Int32) (b4 : Int32) (b5 : St), I b0 b1 b2 b3 b4 b5 → m b0 b1 b2 b3 b4 b5 < m a0 a1 a2 a3 a4 a5 → R b0 b1 b2 b3 b4 b5) → j_Mod_check_5 post R a0 a1 a2 a3 a4 a5) :
    ∀ (a0 : Nat) (a1 : Int32) (a2 : Int32) (a3 : Int32) (a4 : Int32) (a5 : St), I a0 a1 a2 a3 a4 a5 → ∃ n : Nat, wl_Mod_check_5 post n a0 a1 a2 a3 a4 a5 := by
  have key : ∀ (n : Nat) (a0 : Nat) (a1 : Int32) (a2 : Int32) (a3 : Int32) (a4 : Int32) (a5 : St), I a0 a1 a2 a3 a4 a5 → m a0 a1 a2 a3 a4 a5 < n → wl_Mod_check_5 post n a0 a1 a2 a3 a4 a5 := by
    intro n
    induction n with
    | zero => intro a0 a1 a2 a3 a4 a5 _ h; exact absurd h (Nat.not_lt_zero _)
    | succ n ih => intro a0 a1 a2 a3 a4 a5 h hm; exact step (wl_Mod_check_5 post n) a0 a1 a2 a3 a4 a5 h (fun b0 b1 b2 b3 b4 b5 hb hlt => ih b0 b1 b2 b3 b4 b5 hb (Nat.lt_of_lt_of_le hlt (Nat.le_of_lt_succ hm)))
  exact fun a0 a1 a2 a3 a4 a5 h => ⟨_, key _ a0 a1 a2 a3 a4 a5 h (Nat.lt_succ_self _)⟩
theorem lp_Mod_writePage_217 {post : St → Prop} (I : Int32 → Int32 → St → Prop) (m : Int32 → Int32 → St → Nat)
    (step : ∀ (R : Int32 → Int32 → St → Prop) (a0 : Int32) (a1 : Int32) (a2 : St), I a0 a1 a2 → (∀ (b0 : Int32) (b1 : Int32) (b2 : St), I b0 b1 b2 → m b0 b1 b2 < m a0 a1 a2 → R b0 b1 b2) → j_Mod_writePage_217 post R a0 a1 a2) :
    ∀ (a0 : Int32) (a1 : Int32) (a2 : St), I a0 a1 a2 → ∃ n : Nat, wl_Mod_writePage_217 post n a0 a1 a2 := by
  have key : ∀ (n : Nat) (a0 : Int32) (a1 : Int32) (a2 : St), I a0 a1 a2 → m a0 a1 a2 < n → wl_Mod_writePage_217 post n a0 a1 a2 := by
    intro n
    induction n with
    | zero => intro a0 a1 a2 _ h; exact absurd h (Nat.not_lt_zero _)
    | succ n ih => intro a0 a1 a2 h hm; exact step (wl_Mod_writePage_217 post n) a0 a1 a2 h (fun b0 b1 b2 hb hlt => ih b0 b1 b2 hb (Nat.lt_of_lt_of_le hlt (Nat.le_of_lt_succ hm)))
  exact fun a0 a1 a2 h => ⟨_, key _ a0 a1 a2 h (Nat.lt_succ_self _)⟩
theorem lp_Mod_writePage_101 {post : St → Prop} (I : Int32 → Int32 → St → Prop) (m : Int32 → Int32 → St → Nat)
    (step : ∀ (R : Int32 → Int32 → St → Prop) (a0 : Int32) (a1 : Int32) (a2 : St), I a0 a1 a2 → (∀ (b0 : Int32) (b1 : Int32) (b2 : St), I b0 b1 b2 → m b0 b1 b2 < m a0 a1 a2 → R b0 b1 b2) → j_Mod_writePage_101 post R a0 a1 a2) :
    ∀ (a0 : Int32) (a1 : Int32) (a2 : St), I a0 a1 a2 → ∃ n : Nat, wl_Mod_writePage_101 post n a0 a1 a2 := by
  have key : ∀ (n : Nat) (a0 : Int32) (a1 : Int32) (a2 : St), I a0 a1 a2 → m a0 a1 a2 < n → wl_Mod_writePage_101 post n a0 a1 a2 := by
    intro n
    induction n with
    | zero => intro a0 a1 a2 _ h; exact absurd h (Nat.not_lt_zero _)
    | succ n ih => intro a0 a1 a2 h hm; exact step (wl_Mod_writePage_101 post n) a0 a1 a2 h (fun b0 b1 b2 hb hlt => ih b0 b1 b2 hb (Nat.lt_of_lt_of_le hlt (Nat.le_of_lt_succ hm)))
  exact fun a0 a1 a2 h => ⟨_, key _ a0 a1 a2 h (Nat.lt_succ_self _)⟩
theorem lp_Mod_writePage_4 {post : St → Prop} (I : Int32 → Int32 → St → Prop) (m : Int32 → Int32 → St → Nat)
    (step : ∀ (R : Int32 → Int32 → St → Prop) (a0 : Int32) (a1 : Int32) (a2 : St), I a0 a1 a2 → (∀ (b0 : Int32) (b1 : Int32) (b2 : St), I b0 b1 b2 → m b0 b1 b2 < m a0 a1 a2 → R b0 b1 b2) → j_Mod_writePage_4 post R a0 a1 a2) :
    ∀ (a0 : Int32) (a1 : Int32) (a2 : St), I a0 a1 a2 → ∃ n : Nat, wl_Mod_writePage_4 post n a0 a1 a2 := by
  have key : ∀ (n : Nat) (a0 : Int32) (a1 : Int32) (a2 : St), I a0 a1 a2 → m a0 a1 a2 < n → wl_Mod_writePage_4 post n a0 a1 a2 := by
    intro n
    induction n with
    | zero => intro a0 a1 a2 _ h; exact absurd h (Nat.not_lt_zero _)
    | succ n ih => intro a0 a1 a2 h hm; exact step (wl_Mod_writePage_4 post n) a0 a1 a2 h (fun b0 b1 b2 hb hlt => ih b0 b1 b2 hb (Nat.lt_of_lt_of_le hlt (Nat.le_of_lt_succ hm)))
  exact fun a0 a1 a2 h => ⟨_, key _ a0 a1 a2 h (Nat.lt_succ_self _)⟩
theorem lp_Mod_addSheet_2 {post : St → Prop} (I : Int32 → St → Prop) (m : Int32 → St → Nat)
    (step : ∀ (R : Int32 → St → Prop) (a0 : Int32) (a1 : St), I a0 a1 → (∀ (b0 : Int32) (b1 : St), I b0 b1 → m b0 b1 < m a0 a1 → R b0 b1) → j_Mod_addSheet_2 post R a0 a1) :
    ∀ (a0 : Int32) (a1 : St), I a0 a1 → ∃ n : Nat, wl_Mod_addSheet_2 post n a0 a1 := by
  have key : ∀ (n : Nat) (a0 : Int32) (a1 : St), I a0 a1 → m a0 a1 < n → wl_Mod_addSheet_2 post n a0 a1 := by
    intro n
    induction n with
    | zero => intro a0 a1 _ h; exact absurd h (Nat.not_lt_zero _)
    | succ n ih => intro a0 a1 h hm; exact step (wl_Mod_addSheet_2 post n) a0 a1 h (fun b0 b1 hb hlt => ih b0 b1 hb (Nat.lt_of_lt_of_le hlt (Nat.le_of_lt_succ hm)))
  exact fun a0 a1 h => ⟨_, key _ a0 a1 h (Nat.lt_succ_self _)⟩
theorem lp_Mod_writeChunk_61 {post : Int32 → St → Prop} {rec16 : Int32 → Int32 → Int32 → Int32 → Int32 → Int32 → Int32 → St → Prop} (I : Int32 → Int32 → Int32 → Int32 → Int32 → Int32 → Int32 → Int32 → Int32 → Int32 → St → Prop) (m : Int32 → Int32 → Int32 → Int32 → Int32 → Int32 → Int32 → Int32 → Int32 → Int32 → St → Nat)
    (step : ∀ (R : Int32 → Int32 → Int32 → Int32 → Int32 → Int32 → Int32 → Int32 → Int32 → Int32 → St → Prop) (a0 : Int32) (a1 : Int32) (a2 : Int32) (a3 : Int32) (a4 : Int32) (a5 : Int32) (a6 : Int32) (a7 : Int32) (a8 : Int32) (a9 : Int32) (a10 : St), I a0 a1 a2 a3 a4 a5 a6 a7 a8 a9 a10 → (∀ (b0 : Int32) (b1 : Int32) (b2 : Int32) (b3 : Int32) (b4 : Int32) (b5 : Int32) (b6 : Int32) (b7 : Int32) (b8 : Int32) (b9 : Int32) (b10 : St), I b0 b1 b2 b3 b4 b5 b6 b7 b8 b9 b10 → m b0 b1 b2 b3 b4 b5 b6 b7 b8 b9 b10 < m a0 a1 a2 a3 a4 a5 a6 a7 a8 a9 a10 → R b0 b1 b2 b3 b4 b5 b6 b7 b8 b9 b10) → j_Mod_writeChunk_61 post rec16 R a0 a1 a2 a3 a4 a5 a6 a7 a8 a9 a10) :
    ∀ (a0 : Int32) (a1 : Int32) (a2 : Int32) (a3 : Int32) (a4 : Int32) (a5 : Int32) (a6 : Int32) (a7 : Int32) (a8 : Int32) (a9 : Int32) (a10 : St), I a0 a1 a2 a3 a4 a5 a6 a7 a8 a9 a10 → ∃ n : Nat, wl_Mod_writeChunk_61 post rec16 n a0 a1 a2 a3 a4 a5 a6 a7 a8 a9 a10 := by
  have key : ∀ (n : Nat) (a0 : Int32) (a1 : Int32) (a2 : Int32) (a3 : Int32) (a4 : Int32) (a5 : Int32) (a6 : Int32) (a7 : Int32) (a8 : Int32) (a9 : Int32) (a10 : St), I a0 a1 a2 a3 a4 a5 a6 a7 a8 a9 a10 → m a0 a1 a2 a3 a4 a5 a6 a7 a8 a9 a10 < n → wl_Mod_writeChunk_61 post rec16 n a0 a1 a2 a3 a4 a5 a6 a7 a8 a9 a10 := by
    intro n
    induction n with
    | zero => intro a0 a1 a2 a3 a4 a5 a6 a7 a8 a9 a10 _ h; exact absurd h (Nat.not_lt_zero _)
    | succ n ih => intro a0 a1 a2 a3 a4 a5 a6 a7 a8 a9 a10 h hm; exact step (wl_Mod_writeChunk_61 post rec16 n) a0 a1 a2 a3 a4 a5 a6 a7 a8 a9 a10 h (fun b0 b1 b2 b3 b4 b5 b6 b7 b8 b9 b10 hb hlt => ih b0 b1 b2 b3 b4 b5 b6 b7 b8 b9 b10 hb (Nat.lt_of_lt_of_le hlt (Nat.le_of_lt_succ hm)))
  exact fun a0 a1 a2 a3 a4 a5 a6 a7 a8 a9 a10 h => ⟨_, key _ a0 a1 a2 a3 a4 a5 a6 a7 a8 a9 a10 h (Nat.lt_succ_self _)⟩
theorem lp_Mod_writeChunk_16 {post : Int32 → St → Prop} (I : Int32 → Int32 → Int32 → Int32 → Int32 → Int32 → Int32 → St → Prop) (m : Int32 → Int32 → Int32 → Int32 → Int32 → Int32 → Int32 → St → Nat)
    (step : ∀ (R : Int32 → Int32 → Int32 → Int32 → Int32 → Int32 → Int32 → St → Prop) (a0 : Int32) (a1 : Int32) (a2 : Int32) (a3 : Int32) (a4 : Int32) (a5 : Int32) (a6 : Int32) (a7 : St), I a0 a1 a2 a3 a4 a5 a6 a7 → (∀ (b0 : Int32) (b1 : Int32) (b2 : Int32) (b3 : Int32) (b4 : Int32) (b5 : Int32) (b6 : Int32) (b7 : St), I b0 b1 b2 b3 b4 b5 b6 b7 → m b0 b1 b2 b3 b4 b5 b6 b7 < m a0 a1 a2 a3 a4 a5 a6 a7 → R b0 b1 b2 b3 b4 b5 b6 b7) → j_Mod_writeChunk_16 post R a0 a1 a2 a3 a4 a5 a6 a7) :
    ∀ (a0 : Int32) (a1 : Int32) (a2 : Int32) (a3 : Int32) (a4 : Int32) (a5 : Int32) (a6 : Int32) (a7 : St), I a0 a1 a2 a3 a4 a5 a6 a7 → ∃ n : Nat, wl_Mod_writeChunk_16 post n a0 a1 a2 a3 a4 a5 a6 a7 := by
  have key : ∀ (n : Nat) (a0 : Int32) (a1 : Int32) (a2 : Int32) (a3 : Int32) (a4 : Int32) (a5 : Int32) (a6 : Int32) (a7 : St), I a0 a1 a2 a3 a4 a5 a6 a7 → m a0 a1 a2 a3 a4 a5 a6 a7 < n → wl_Mod_writeChunk_16 post n a0 a1 a2 a3 a4 a5 a6 a7 := by
    intro n
    induction n with
    | zero => intro a0 a1 a2 a3 a4 a5 a6 a7 _ h; exact absurd h (Nat.not_lt_zero _)
    | succ n ih => intro a0 a1 a2 a3 a4 a5 a6 a7 h hm; exact step (wl_Mod_writeChunk_16 post n) a0 a1 a2 a3 a4 a5 a6 a7 h (fun b0 b1 b2 b3 b4 b5 b6 b7 hb hlt => ih b0 b1 b2 b3 b4 b5 b6 b7 hb (Nat.lt_of_lt_of_le hlt (Nat.le_of_lt_succ hm)))
  exact fun a0 a1 a2 a3 a4 a5 a6 a7 h => ⟨_, key _ a0 a1 a2 a3 a4 a5 a6 a7 h (Nat.lt_succ_self _)⟩
theorem lp_Mod_against2_50 {post : Int32 → St → Prop} (I : Int32 → Int32 → Int32 → Int32 → St → Prop) (m : Int32 → Int32 → Int32 → Int32 → St → Nat)
    (step : ∀ (R : Int32 → Int32 → Int32 → Int32 → St → Prop) (a0 : Int32) (a1 : Int32) (a2 : Int32) (a3 : Int32) (a4 : St), I a0 a1 a2 a3 a4 → (∀ (b0 : Int32) (b1 : Int32) (b2 : Int32) (b3 : Int32) (b4 : St), I b0 b1 b2 b3 b4 → m b0 b1 b2 b3 b4 < m a0 a1 a2 a3 a4 → R b0 b1 b2 b3 b4) → j_Mod_against2_50 post R a0 a1 a2 a3 a4) :
    ∀ (a0 : Int32) (a1 : Int32) (a2 : Int32) (a3 : Int32) (a4 : St), I a0 a1 a2 a3 a4 → ∃ n : Nat, wl_Mod_against2_50 post n a0 a1 a2 a3 a4 := by
  have key : ∀ (n : Nat) (a0 : Int32) (a1 : Int32) (a2 : Int32) (a3 : Int32) (a4 : St), I a0 a1 a2 a3 a4 → m a0 a1 a2 a3 a4 < n → wl_Mod_against2_50 post n a0 a1 a2 a3 a4 := by
    intro n
    induction n with
    | zero => intro a0 a1 a2 a3 a4 _ h; exact absurd h (Nat.not_lt_zero _)
    | succ n ih => intro a0 a1 a2 a3 a4 h hm; exact step (wl_Mod_against2_50 post n) a0 a1 a2 a3 a4 h (fun b0 b1 b2 b3 b4 hb hlt => ih b0 b1 b2 b3 b4 hb (Nat.lt_of_lt_of_le hlt (Nat.le_of_lt_succ hm)))
  exact fun a0 a1 a2 a3 a4 h => ⟨_, key _ a0 a1 a2 a3 a4 h (Nat.lt_succ_self _)⟩
theorem lp_Mod_putEntry_52 {post : St → Prop} (I : Int32 → Int32 → Int32 → St → Prop) (m : Int32 → Int32 → Int32 → St → Nat)
    (step : ∀ (R : Int32 → Int32 → Int32 → St → Prop) (a0 : Int32) (a1 : Int32) (a2 : Int32) (a3 : St), I a0 a1 a2 a3 → (∀ (b0 : Int32) (b1 : Int32) (b2 : Int32) (b3 : St), I b0 b1 b2 b3 → m b0 b1 b2 b3 < m a0 a1 a2 a3 → R b0 b1 b2 b3) → j_Mod_putEntry_52 post R a0 a1 a2 a3) :
    ∀ (a0 : Int32) (a1 : Int32) (a2 : Int32) (a3 : St), I a0 a1 a2 a3 → ∃ n : Nat, wl_Mod_putEntry_52 post n a0 a1 a2 a3 := by
  have key : ∀ (n : Nat) (a0 : Int32) (a1 : Int32) (a2 : Int32) (a3 : St), I a0 a1 a2 a3 → m a0 a1 a2 a3 < n → wl_Mod_putEntry_52 post n a0 a1 a2 a3 := by
    intro n
    induction n with
    | zero => intro a0 a1 a2 a3 _ h; exact absurd h (Nat.not_lt_zero _)
    | succ n ih => intro a0 a1 a2 a3 h hm; exact step (wl_Mod_putEntry_52 post n) a0 a1 a2 a3 h (fun b0 b1 b2 b3 hb hlt => ih b0 b1 b2 b3 hb (Nat.lt_of_lt_of_le hlt (Nat.le_of_lt_succ hm)))
  exact fun a0 a1 a2 a3 h => ⟨_, key _ a0 a1 a2 a3 h (Nat.lt_succ_self _)⟩
theorem lp_Mod_putChunk_25 {post : St → Prop} (I : Int32 → Int32 → Int32 → Int32 → Int32 → Int32 → Int32 → Int32 → Int32 → St → Prop) (m : Int32 → Int32 → Int32 → Int32 → Int32 → Int32 → Int32 → Int32 → Int32 → St → Nat)
    (step : ∀ (R : Int32 → Int32 → Int32 → Int32 → Int32 → Int32 → Int32 → Int32 → Int32 → St → Prop) (a0 : Int32) (a1 : Int32) (a2 : Int32) (a3 : Int32) (a4 : Int32) (a5 : Int32) (a6 : Int32) (a7 : Int32) (a8 : Int32) (a9 : St), I a0 a1 a2 a3 a4 a5 a6 a7 a8 a9 → (∀ (b0 : Int32) (b1 : Int32) (b2 : Int32) (b3 : Int32) (b4 : Int32) (b5 : Int32) (b6 : Int32) (b7 : Int32) (b8 : Int32) (b9 : St), I b0 b1 b2 b3 b4 b5 b6 b7 b8 b9 → m b0 b1 b2 b3 b4 b5 b6 b7 b8 b9 < m a0 a1 a2 a3 a4 a5 a6 a7 a8 a9 → R b0 b1 b2 b3 b4 b5 b6 b7 b8 b9) → j_Mod_putChunk_25 post R a0 a1 a2 a3 a4 a5 a6 a7 a8 a9) :
    ∀ (a0 : Int32) (a1 : Int32) (a2 : Int32) (a3 : Int32) (a4 : Int32) (a5 : Int32) (a6 : Int32) (a7 : Int32) (a8 : Int32) (a9 : St), I a0 a1 a2 a3 a4 a5 a6 a7 a8 a9 → ∃ n : Nat, wl_Mod_putChunk_25 post n a0 a1 a2 a3 a4 a5 a6 a7 a8 a9 := by
  have key : ∀ (n : Nat) (a0 : Int32) (a1 : Int32) (a2 : Int32) (a3 : Int32) (a4 : Int32) (a5 : Int32) (a6 : Int32) (a7 : Int32) (a8 : Int32) (a9 : St), I a0 a1 a2 a3 a4 a5 a6 a7 a8 a9 → m a0 a1 a2 a3 a4 a5 a6 a7 a8 a9 < n → wl_Mod_putChunk_25 post n a0 a1 a2 a3 a4 a5 a6 a7 a8 a9 := by
    intro n
    induction n with
    | zero => intro a0 a1 a2 a3 a4 a5 a6 a7 a8 a9 _ h; exact absurd h (Nat.not_lt_zero _)
    | succ n ih => intro a0 a1 a2 a3 a4 a5 a6 a7 a8 a9 h hm; exact step (wl_Mod_putChunk_25 post n) a0 a1 a2 a3 a4 a5 a6 a7 a8 a9 h (fun b0 b1 b2 b3 b4 b5 b6 b7 b8 b9 hb hlt => ih b0 b1 b2 b3 b4 b5 b6 b7 b8 b9 hb (Nat.lt_of_lt_of_le hlt (Nat.le_of_lt_succ hm)))
  exact fun a0 a1 a2 a3 a4 a5 a6 a7 a8 a9 h => ⟨_, key _ a0 a1 a2 a3 a4 a5 a6 a7 a8 a9 h (Nat.lt_succ_self _)⟩
theorem lp_Mod_putFooter_180 {post : St → Prop} {rec138 : Int32 → Int32 → Int32 → St → Prop} (I : Int32 → Int32 → Int32 → Int32 → Int32 → St → Prop) (m : Int32 → Int32 → Int32 → Int32 → Int32 → St → Nat)
    (step : ∀ (R : Int32 → Int32 → Int32 → Int32 → Int32 → St → Prop) (a0 : Int32) (a1 : Int32) (a2 : Int32) (a3 : Int32) (a4 : Int32) (a5 : St), I a0 a1 a2 a3 a4 a5 → (∀ (b0 : Int32) (b1 : Int32) (b2 : Int32) (b3 : Int32) (b4 : Int32) (b5 : St), I b0 b1 b2 b3 b4 b5 → m b0 b1 b2 b3 b4 b5 < m a0 a1 a2 a3 a4 a5 → R b0 b1 b2 b3 b4 b5) → j_Mod_putFooter_180 post rec138 R a0 a1 a2 a3 a4 a5) :
    ∀ (a0 : Int32) (a1 : Int32) (a2 : Int32) (a3 : Int32) (a4 : Int32) (a5 : St), I a0 a1 a2 a3 a4 a5 → ∃ n : Nat, wl_Mod_putFooter_180 post rec138 n a0 a1 a2 a3 a4 a5 := by
  have key : ∀ (n : Nat) (a0 : Int32) (a1 : Int32) (a2 : Int32) (a3 : Int32) (a4 : Int32) (a5 : St), I a0 a1 a2 a3 a4 a5 → m a0 a1 a2 a3 a4 a5 < n → wl_Mod_putFooter_180 post rec138 n a0 a1 a2 a3 a4 a5 := by
    intro n
    induction n with
    | zero => intro a0 a1 a2 a3 a4 a5 _ h; exact absurd h (Nat.not_lt_zero _)
    | succ n ih => intro a0 a1 a2 a3 a4 a5 h hm; exact step (wl_Mod_putFooter_180 post rec138 n) a0 a1 a2 a3 a4 a5 h (fun b0 b1 b2 b3 b4 b5 hb hlt => ih b0 b1 b2 b3 b4 b5 hb (Nat.lt_of_lt_of_le hlt (Nat.le_of_lt_succ hm)))
  exact fun a0 a1 a2 a3 a4 a5 h => ⟨_, key _ a0 a1 a2 a3 a4 a5 h (Nat.lt_succ_self _)⟩
theorem lp_Mod_putFooter_138 {post : St → Prop} (I : Int32 → Int32 → Int32 → St → Prop) (m : Int32 → Int32 → Int32 → St → Nat)
    (step : ∀ (R : Int32 → Int32 → Int32 → St → Prop) (a0 : Int32) (a1 : Int32) (a2 : Int32) (a3 : St), I a0 a1 a2 a3 → (∀ (b0 : Int32) (b1 : Int32) (b2 : Int32) (b3 : St), I b0 b1 b2 b3 → m b0 b1 b2 b3 < m a0 a1 a2 a3 → R b0 b1 b2 b3) → j_Mod_putFooter_138 post R a0 a1 a2 a3) :
    ∀ (a0 : Int32) (a1 : Int32) (a2 : Int32) (a3 : St), I a0 a1 a2 a3 → ∃ n : Nat, wl_Mod_putFooter_138 post n a0 a1 a2 a3 := by
  have key : ∀ (n : Nat) (a0 : Int32) (a1 : Int32) (a2 : Int32) (a3 : St), I a0 a1 a2 a3 → m a0 a1 a2 a3 < n → wl_Mod_putFooter_138 post n a0 a1 a2 a3 := by
    intro n
    induction n with
    | zero => intro a0 a1 a2 a3 _ h; exact absurd h (Nat.not_lt_zero _)
    | succ n ih => intro a0 a1 a2 a3 h hm; exact step (wl_Mod_putFooter_138 post n) a0 a1 a2 a3 h (fun b0 b1 b2 b3 hb hlt => ih b0 b1 b2 b3 hb (Nat.lt_of_lt_of_le hlt (Nat.le_of_lt_succ hm)))
  exact fun a0 a1 a2 a3 h => ⟨_, key _ a0 a1 a2 a3 h (Nat.lt_succ_self _)⟩
theorem lp_Mod_putFooter_73 {post : St → Prop} {rec18 : Int32 → Int32 → St → Prop} (I : Int32 → Int32 → Int32 → St → Prop) (m : Int32 → Int32 → Int32 → St → Nat)
    (step : ∀ (R : Int32 → Int32 → Int32 → St → Prop) (a0 : Int32) (a1 : Int32) (a2 : Int32) (a3 : St), I a0 a1 a2 a3 → (∀ (b0 : Int32) (b1 : Int32) (b2 : Int32) (b3 : St), I b0 b1 b2 b3 → m b0 b1 b2 b3 < m a0 a1 a2 a3 → R b0 b1 b2 b3) → j_Mod_putFooter_73 post rec18 R a0 a1 a2 a3) :
    ∀ (a0 : Int32) (a1 : Int32) (a2 : Int32) (a3 : St), I a0 a1 a2 a3 → ∃ n : Nat, wl_Mod_putFooter_73 post rec18 n a0 a1 a2 a3 := by
  have key : ∀ (n : Nat) (a0 : Int32) (a1 : Int32) (a2 : Int32) (a3 : St), I a0 a1 a2 a3 → m a0 a1 a2 a3 < n → wl_Mod_putFooter_73 post rec18 n a0 a1 a2 a3 := by
    intro n
    induction n with
    | zero => intro a0 a1 a2 a3 _ h; exact absurd h (Nat.not_lt_zero _)
    | succ n ih => intro a0 a1 a2 a3 h hm; exact step (wl_Mod_putFooter_73 post rec18 n) a0 a1 a2 a3 h (fun b0 b1 b2 b3 hb hlt => ih b0 b1 b2 b3 hb (Nat.lt_of_lt_of_le hlt (Nat.le_of_lt_succ hm)))
  exact fun a0 a1 a2 a3 h => ⟨_, key _ a0 a1 a2 a3 h (Nat.lt_succ_self _)⟩
