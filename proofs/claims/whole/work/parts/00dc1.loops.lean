theorem lp_Ans_canBe_98 {post : Int32 → St → Prop} (I : Nat → Int32 → Int32 → Int32 → Int64 → Nat → Nat → Int32 → Int32 → Int32 → St → Prop) (m : Nat → Int32 → Int32 → Int32 → Int64 → Nat → Nat → Int32 → Int32 → Int32 → St → Nat)
    (step : ∀ (R : Nat → Int32 → Int32 → Int32 → Int64 → Nat → Nat → Int32 → Int32 → Int32 → St → Prop) (a0 : Nat) (a1 : Int32) (a2 : Int32) (a3 : Int32) (a4 : Int64) (a5 : Nat) (a6 : Nat) (a7 : Int32) (a8 : Int32) (a9 : Int32) (a10 : St), I a0 a1 a2 a3 a4 a5 a6 a7 a8 a9 a10 → (∀ (b0 : Nat) (b1 : Int32) (b2 : Int32) (b3 : Int32) (b4 : Int64) (b5 : Nat) (b6 : Nat) (b7 : Int32) (b8 : Int32) (b9 : Int32) (b10 : St), I b0 b1 b2 b3 b4 b5 b6 b7 b8 b9 b10 → m b0 b1 b2 b3 b4 b5 b6 b7 b8 b9 b10 < m a0 a1 a2 a3 a4 a5 a6 a7 a8 a9 a10 → R b0 b1 b2 b3 b4 b5 b6 b7 b8 b9 b10) → j_Ans_canBe_98 post R a0 a1 a2 a3 a4 a5 a6 a7 a8 a9 a10) :
    ∀ (a0 : Nat) (a1 : Int32) (a2 : Int32) (a3 : Int32) (a4 : Int64) (a5 : Nat) (a6 : Nat) (a7 : Int32) (a8 : Int32) (a9 : Int32) (a10 : St), I a0 a1 a2 a3 a4 a5 a6 a7 a8 a9 a10 → ∃ n : Nat, wl_Ans_canBe_98 post n a0 a1 a2 a3 a4 a5 a6 a7 a8 a9 a10 := by
  have key : ∀ (n : Nat) (a0 : Nat) (a1 : Int32) (a2 : Int32) (a3 : Int32) (a4 : Int64) (a5 : Nat) (a6 : Nat) (a7 : Int32) (a8 : Int32) (a9 : Int32) (a10 : St), I a0 a1 a2 a3 a4 a5 a6 a7 a8 a9 a10 → m a0 a1 a2 a3 a4 a5 a6 a7 a8 a9 a10 < n → wl_Ans_canBe_98 post n a0 a1 a2 a3 a4 a5 a6 a7 a8 a9 a10 := by
    intro n
    induction n with
    | zero => intro a0 a1 a2 a3 a4 a5 a6 a7 a8 a9 a10 _ h; exact absurd h (Nat.not_lt_zero _)
    | succ n ih => intro a0 a1 a2 a3 a4 a5 a6 a7 a8 a9 a10 h hm; exact step (wl_Ans_canBe_98 post n) a0 a1 a2 a3 a4 a5 a6 a7 a8 a9 a10 h (fun b0 b1 b2 b3 b4 b5 b6 b7 b8 b9 b10 hb hlt => ih b0 b1 b2 b3 b4 b5 b6 b7 b8 b9 b10 hb (Nat.lt_of_lt_of_le hlt (Nat.le_of_lt_succ hm)))
  exact fun a0 a1 a2 a3 a4 a5 a6 a7 a8 a9 a10 h => ⟨_, key _ a0 a1 a2 a3 a4 a5 a6 a7 a8 a9 a10 h (Nat.lt_succ_self _)⟩
theorem lp_Ans_canBeListed_3 {post : Int32 → St → Prop} (I : Nat → Int32 → Int32 → Int32 → Int32 → St → Prop) (m : Nat → Int32 → Int32 → Int32 → Int32 → St → Nat)
    (step : ∀ (R : Nat → Int32 → Int32 → Int32 → Int32 → St → Prop) (a0 : Nat) (a1 : Int32) (a2 : Int32) (a3 : Int32) (a4 : Int32) (a5 : St), I a0 a1 a2 a3 a4 a5 → (∀ (b0 : Nat) (b1 : Int32) (b2 : Int32) (b3 : Int32) (b4 : Int32) (b5 : St), I b0 b1 b2 b3 b4 b5 → m b0 b1 b2 b3 b4 b5 < m a0 a1 a2 a3 a4 a5 → R b0 b1 b2 b3 b4 b5) → j_Ans_canBeListed_3 post R a0 a1 a2 a3 a4 a5) :
    ∀ (a0 : Nat) (a1 : Int32) (a2 : Int32) (a3 : Int32) (a4 : Int32) (a5 : St), I a0 a1 a2 a3 a4 a5 → ∃ n : Nat, wl_Ans_canBeListed_3 post n a0 a1 a2 a3 a4 a5 := by
  have key : ∀ (n : Nat) (a0 : Nat) (a1 : Int32) (a2 : Int32) (a3 : Int32) (a4 : Int32) (a5 : St), I a0 a1 a2 a3 a4 a5 → m a0 a1 a2 a3 a4 a5 < n → wl_Ans_canBeListed_3 post n a0 a1 a2 a3 a4 a5 := by
    intro n
    induction n with
    | zero => intro a0 a1 a2 a3 a4 a5 _ h; exact absurd h (Nat.not_lt_zero _)
    | succ n ih => intro a0 a1 a2 a3 a4 a5 h hm; exact step (wl_Ans_canBeListed_3 post n) a0 a1 a2 a3 a4 a5 h (fun b0 b1 b2 b3 b4 b5 hb hlt => ih b0 b1 b2 b3 b4 b5 hb (Nat.lt_of_lt_of_le hlt (Nat.le_of_lt_succ hm)))
  exact fun a0 a1 a2 a3 a4 a5 h => ⟨_, key _ a0 a1 a2 a3 a4 a5 h (Nat.lt_succ_self _)⟩
theorem lp_Ans_isListed_3 {post : Int32 → St → Prop} (I : Nat → Int32 → Int32 → Int64 → Int32 → St → Prop) (m : Nat → Int32 → Int32 → Int64 → Int32 → St → Nat)
    (step : ∀ (R : Nat → Int32 → Int32 → Int64 → Int32 → St → Prop) (a0 : Nat) (a1 : Int32) (a2 : Int32) (a3 : Int64) (a4 : Int32) (a5 : St), I a0 a1 a2 a3 a4 a5 → (∀ (b0 : Nat) (b1 : Int32) (b2 : Int32) (b3 : Int64) (b4 : Int32) (b5 : St), I b0 b1 b2 b3 b4 b5 → m b0 b1 b2 b3 b4 b5 < m a0 a1 a2 a3 a4 a5 → R b0 b1 b2 b3 b4 b5) → j_Ans_isListed_3 post R a0 a1 a2 a3 a4 a5) :
    ∀ (a0 : Nat) (a1 : Int32) (a2 : Int32) (a3 : Int64) (a4 : Int32) (a5 : St), I a0 a1 a2 a3 a4 a5 → ∃ n : Nat, wl_Ans_isListed_3 post n a0 a1 a2 a3 a4 a5 := by
  have key : ∀ (n : Nat) (a0 : Nat) (a1 : Int32) (a2 : Int32) (a3 : Int64) (a4 : Int32) (a5 : St), I a0 a1 a2 a3 a4 a5 → m a0 a1 a2 a3 a4 a5 < n → wl_Ans_isListed_3 post n a0 a1 a2 a3 a4 a5 := by
    intro n
    induction n with
    | zero => intro a0 a1 a2 a3 a4 a5 _ h; exact absurd h (Nat.not_lt_zero _)
    | succ n ih => intro a0 a1 a2 a3 a4 a5 h hm; exact step (wl_Ans_isListed_3 post n) a0 a1 a2 a3 a4 a5 h (fun b0 b1 b2 b3 b4 b5 hb hlt => ih b0 b1 b2 b3 b4 b5 hb (Nat.lt_of_lt_of_le hlt (Nat.le_of_lt_succ hm)))
  exact fun a0 a1 a2 a3 a4 a5 h => ⟨_, key _ a0 a1 a2 a3 a4 a5 h (Nat.lt_succ_self _)⟩
theorem lp_Ans_canBeUnlisted_79 {post : Int32 → St → Prop} (I : Nat → Int32 → Int32 → Int32 → Int32 → Int32 → Int32 → St → Prop) (m : Nat → Int32 → Int32 → Int32 → Int32 → Int32 → Int32 → St → Nat)
    (step : ∀ (R : Nat → Int32 → Int32 → Int32 → Int32 → Int32 → Int32 → St → Prop) (a0 : Nat) (a1 : Int32) (a2 : Int32) (a3 : Int32) (a4 : Int32) (a5 : Int32) (a6 : Int32) (a7 : St), I a0 a1 a2 a3 a4 a5 a6 a7 → (∀ (b0 : Nat) (b1 : Int32) (b2 : Int32) (b3 : Int32) (b4 : Int32) (b5 : Int32) (b6 : Int32) (b7 : St), I b0 b1 b2 b3 b4 b5 b6 b7 → m b0 b1 b2 b3 b4 b5 b6 b7 < m a0 a1 a2 a3 a4 a5 a6 a7 → R b0 b1 b2 b3 b4 b5 b6 b7) → j_Ans_canBeUnlisted_79 post R a0 a1 a2 a3 a4 a5 a6 a7) :
    ∀ (a0 : Nat) (a1 : Int32) (a2 : Int32) (a3 : Int32) (a4 : Int32) (a5 : Int32) (a6 : Int32) (a7 : St), I a0 a1 a2 a3 a4 a5 a6 a7 → ∃ n : Nat, wl_Ans_canBeUnlisted_79 post n a0 a1 a2 a3 a4 a5 a6 a7 := by
  have key : ∀ (n : Nat) (a0 : Nat) (a1 : Int32) (a2 : Int32) (a3 : Int32) (a4 : Int32) (a5 : Int32) (a6 : Int32) (a7 : St), I a0 a1 a2 a3 a4 a5 a6 a7 → m a0 a1 a2 a3 a4 a5 a6 a7 < n → wl_Ans_canBeUnlisted_79 post n a0 a1 a2 a3 a4 a5 a6 a7 := by
    intro n
    induction n with
    | zero => intro a0 a1 a2 a3 a4 a5 a6 a7 _ h; exact absurd h (Nat.not_lt_zero _)
    | succ n ih => intro a0 a1 a2 a3 a4 a5 a6 a7 h hm; exact step (wl_Ans_canBeUnlisted_79 post n) a0 a1 a2 a3 a4 a5 a6 a7 h (fun b0 b1 b2 b3 b4 b5 b6 b7 hb hlt => ih b0 b1 b2 b3 b4 b5 b6 b7 hb (Nat.lt_of_lt_of_le hlt (Nat.le_of_lt_succ hm)))
  exact fun a0 a1 a2 a3 a4 a5 a6 a7 h => ⟨_, key _ a0 a1 a2 a3 a4 a5 a6 a7 h (Nat.lt_succ_self _)⟩
theorem lp_Ans_truthsOf_4 {post : Int32 → St → Prop} (I : Nat → Int32 → Int32 → Int32 → St → Prop) (m : Nat → Int32 → Int32 → Int32 → St → Nat)
    (step : ∀ (R : Nat → Int32 → Int32 → Int32 → St → Prop) (a0 : Nat) (a1 : Int32) (a2 : Int32) (a3 : Int32) (a4 : St), I a0 a1 a2 a3 a4 → (∀ (b0 : Nat) (b1 : Int32) (b2 : Int32) (b3 : Int32) (b4 : St), I b0 b1 b2 b3 b4 → m b0 b1 b2 b3 b4 < m a0 a1 a2 a3 a4 → R b0 b1 b2 b3 b4) → j_Ans_truthsOf_4 post R a0 a1 a2 a3 a4) :
    ∀ (a0 : Nat) (a1 : Int32) (a2 : Int32) (a3 : Int32) (a4 : St), I a0 a1 a2 a3 a4 → ∃ n : Nat, wl_Ans_truthsOf_4 post n a0 a1 a2 a3 a4 := by
  have key : ∀ (n : Nat) (a0 : Nat) (a1 : Int32) (a2 : Int32) (a3 : Int32) (a4 : St), I a0 a1 a2 a3 a4 → m a0 a1 a2 a3 a4 < n → wl_Ans_truthsOf_4 post n a0 a1 a2 a3 a4 := by
    intro n
    induction n with
    | zero => intro a0 a1 a2 a3 a4 _ h; exact absurd h (Nat.not_lt_zero _)
    | succ n ih => intro a0 a1 a2 a3 a4 h hm; exact step (wl_Ans_truthsOf_4 post n) a0 a1 a2 a3 a4 h (fun b0 b1 b2 b3 b4 hb hlt => ih b0 b1 b2 b3 b4 hb (Nat.lt_of_lt_of_le hlt (Nat.le_of_lt_succ hm)))
  exact fun a0 a1 a2 a3 a4 h => ⟨_, key _ a0 a1 a2 a3 a4 h (Nat.lt_succ_self _)⟩
theorem lp_Ans_hashOfRow_4 {post : Int32 → St → Prop} (I : Nat → Int32 → Int32 → Int32 → St → Prop) (m : Nat → Int32 → Int32 → Int32 → St → Nat)
    (step : ∀ (R : Nat → Int32 → Int32 → Int32 → St → Prop) (a0 : Nat) (a1 : Int32) (a2 : Int32) (a3 : Int32) (a4 : St), I a0 a1 a2 a3 a4 → (∀ (b0 : Nat) (b1 : Int32) (b2 : Int32) (b3 : Int32) (b4 : St), I b0 b1 b2 b3 b4 → m b0 b1 b2 b3 b4 < m a0 a1 a2 a3 a4 → R b0 b1 b2 b3 b4) → j_Ans_hashOfRow_4 post R a0 a1 a2 a3 a4) :
    ∀ (a0 : Nat) (a1 : Int32) (a2 : Int32) (a3 : Int32) (a4 : St), I a0 a1 a2 a3 a4 → ∃ n : Nat, wl_Ans_hashOfRow_4 post n a0 a1 a2 a3 a4 := by
  have key : ∀ (n : Nat) (a0 : Nat) (a1 : Int32) (a2 : Int32) (a3 : Int32) (a4 : St), I a0 a1 a2 a3 a4 → m a0 a1 a2 a3 a4 < n → wl_Ans_hashOfRow_4 post n a0 a1 a2 a3 a4 := by
    intro n
    induction n with
    | zero => intro a0 a1 a2 a3 a4 _ h; exact absurd h (Nat.not_lt_zero _)
    | succ n ih => intro a0 a1 a2 a3 a4 h hm; exact step (wl_Ans_hashOfRow_4 post n) a0 a1 a2 a3 a4 h (fun b0 b1 b2 b3 b4 hb hlt => ih b0 b1 b2 b3 b4 hb (Nat.lt_of_lt_of_le hlt (Nat.le_of_lt_succ hm)))
  exact fun a0 a1 a2 a3 a4 h => ⟨_, key _ a0 a1 a2 a3 a4 h (Nat.lt_succ_self _)⟩
theorem lp_Ans_sameGroup_2 {post : Int32 → St → Prop} (I : Nat → Int32 → Int32 → Int32 → St → Prop) (m : Nat → Int32 → Int32 → Int32 → St → Nat)
    (step : ∀ (R : Nat → Int32 → Int32 → Int32 → St → Prop) (a0 : Nat) (a1 : Int32) (a2 : Int32) (a3 : Int32) (a4 : St), I a0 a1 a2 a3 a4 → (∀ (b0 : Nat) (b1 : Int32) (b2 : Int32) (b3 : Int32) (b4 : St), I b0 b1 b2 b3 b4 → m b0 b1 b2 b3 b4 < m a0 a1 a2 a3 a4 → R b0 b1 b2 b3 b4) → j_Ans_sameGroup_2 post R a0 a1 a2 a3 a4) :
    ∀ (a0 : Nat) (a1 : Int32) (a2 : Int32) (a3 : Int32) (a4 : St), I a0 a1 a2 a3 a4 → ∃ n : Nat, wl_Ans_sameGroup_2 post n a0 a1 a2 a3 a4 := by
  have key : ∀ (n : Nat) (a0 : Nat) (a1 : Int32) (a2 : Int32) (a3 : Int32) (a4 : St), I a0 a1 a2 a3 a4 → m a0 a1 a2 a3 a4 < n → wl_Ans_sameGroup_2 post n a0 a1 a2 a3 a4 := by
    intro n
    induction n with
    | zero => intro a0 a1 a2 a3 a4 _ h; exact absurd h (Nat.not_lt_zero _)
    | succ n ih => intro a0 a1 a2 a3 a4 h hm; exact step (wl_Ans_sameGroup_2 post n) a0 a1 a2 a3 a4 h (fun b0 b1 b2 b3 b4 hb hlt => ih b0 b1 b2 b3 b4 hb (Nat.lt_of_lt_of_le hlt (Nat.le_of_lt_succ hm)))
  exact fun a0 a1 a2 a3 a4 h => ⟨_, key _ a0 a1 a2 a3 a4 h (Nat.lt_succ_self _)⟩
theorem lp_Ans_groupOf_24 {post : Int32 → St → Prop} (I : Nat → Int32 → Int32 → Int32 → St → Prop) (m : Nat → Int32 → Int32 → Int32 → St → Nat)
    (step : ∀ (R : Nat → Int32 → Int32 → Int32 → St → Prop) (a0 : Nat) (a1 : Int32) (a2 : Int32) (a3 : Int32) (a4 : St), I a0 a1 a2 a3 a4 → (∀ (b0 : Nat) (b1 : Int32) (b2 : Int32) (b3 : Int32) (b4 : St), I b0 b1 b2 b3 b4 → m b0 b1 b2 b3 b4 < m a0 a1 a2 a3 a4 → R b0 b1 b2 b3 b4) → j_Ans_groupOf_24 post R a0 a1 a2 a3 a4) :
    ∀ (a0 : Nat) (a1 : Int32) (a2 : Int32) (a3 : Int32) (a4 : St), I a0 a1 a2 a3 a4 → ∃ n : Nat, wl_Ans_groupOf_24 post n a0 a1 a2 a3 a4 := by
  have key : ∀ (n : Nat) (a0 : Nat) (a1 : Int32) (a2 : Int32) (a3 : Int32) (a4 : St), I a0 a1 a2 a3 a4 → m a0 a1 a2 a3 a4 < n → wl_Ans_groupOf_24 post n a0 a1 a2 a3 a4 := by
    intro n
    induction n with
    | zero => intro a0 a1 a2 a3 a4 _ h; exact absurd h (Nat.not_lt_zero _)
    | succ n ih => intro a0 a1 a2 a3 a4 h hm; exact step (wl_Ans_groupOf_24 post n) a0 a1 a2 a3 a4 h (fun b0 b1 b2 b3 b4 hb hlt => ih b0 b1 b2 b3 b4 hb (Nat.lt_of_lt_of_le hlt (Nat.le_of_lt_succ hm)))
  exact fun a0 a1 a2 a3 a4 h => ⟨_, key _ a0 a1 a2 a3 a4 h (Nat.lt_succ_self _)⟩
theorem lp_Ans_gather_2 {post : St → Prop} (I : Nat → Int32 → Int32 → Int32 → St → Prop) (m : Nat → Int32 → Int32 → Int32 → St → Nat)
    (step : ∀ (R : Nat → Int32 → Int32 → Int32 → St → Prop) (a0 : Nat) (a1 : Int32) (a2 : Int32) (a3 : Int32) (a4 : St), I a0 a1 a2 a3 a4 → (∀ (b0 : Nat) (b1 : Int32) (b2 : Int32) (b3 : Int32) (b4 : St), I b0 b1 b2 b3 b4 → m b0 b1 b2 b3 b4 < m a0 a1 a2 a3 a4 → R b0 b1 b2 b3 b4) → j_Ans_gather_2 post R a0 a1 a2 a3 a4) :
    ∀ (a0 : Nat) (a1 : Int32) (a2 : Int32) (a3 : Int32) (a4 : St), I a0 a1 a2 a3 a4 → ∃ n : Nat, wl_Ans_gather_2 post n a0 a1 a2 a3 a4 := by
  have key : ∀ (n : Nat) (a0 : Nat) (a1 : Int32) (a2 : Int32) (a3 : Int32) (a4 : St), I a0 a1 a2 a3 a4 → m a0 a1 a2 a3 a4 < n → wl_Ans_gather_2 post n a0 a1 a2 a3 a4 := by
    intro n
    induction n with
    | zero => intro a0 a1 a2 a3 a4 _ h; exact absurd h (Nat.not_lt_zero _)
    | succ n ih => intro a0 a1 a2 a3 a4 h hm; exact step (wl_Ans_gather_2 post n) a0 a1 a2 a3 a4 h (fun b0 b1 b2 b3 b4 hb hlt => ih b0 b1 b2 b3 b4 hb (Nat.lt_of_lt_of_le hlt (Nat.le_of_lt_succ hm)))
  exact fun a0 a1 a2 a3 a4 h => ⟨_, key _ a0 a1 a2 a3 a4 h (Nat.lt_succ_self _)⟩
theorem lp_Ans_markWanted_60 {post : St → Prop} {rec32 : Nat → Nat → Int32 → St → Prop} (I : Nat → Nat → Int32 → Int32 → Int32 → St → Prop) (m : Nat → Nat → Int32 → Int32 → Int32 → St → Nat)
    (step : ∀ (R : Nat → Nat → Int32 → Int32 → Int32 → St → Prop) (a0 : Nat) (a1 : Nat) (a2 : Int32) (a3 : Int32) (a4 : Int32) (a5 : St), I a0 a1 a2 a3 a4 a5 → (∀ (b0 : Nat) (b1 : Nat) (b2 : Int32) (b3 : Int32) (b4 : Int32) (b5 : St), I b0 b1 b2 b3 b4 b5 → m b0 b1 b2 b3 b4 b5 < m a0 a1 a2 a3 a4 a5 → R b0 b1 b2 b3 b4 b5) → j_Ans_markWanted_60 post rec32 R a0 a1 a2 a3 a4 a5) :
    ∀ (a0 : Nat) (a1 : Nat) (a2 : Int32) (a3 : Int32) (a4 : Int32) (a5 : St), I a0 a1 a2 a3 a4 a5 → ∃ n : Nat, wl_Ans_markWanted_60 post rec32 n a0 a1 a2 a3 a4 a5 := by
  have key : ∀ (n : Nat) (a0 : Nat) (a1 : Nat) (a2 : Int32) (a3 : Int32) (a4 : Int32) (a5 : St), I a0 a1 a2 a3 a4 a5 → m a0 a1 a2 a3 a4 a5 < n → wl_Ans_markWanted_60 post rec32 n a0 a1 a2 a3 a4 a5 := by
    intro n
    induction n with
    | zero => intro a0 a1 a2 a3 a4 a5 _ h; exact absurd h (Nat.not_lt_zero _)
    | succ n ih => intro a0 a1 a2 a3 a4 a5 h hm; exact step (wl_Ans_markWanted_60 post rec32 n) a0 a1 a2 a3 a4 a5 h (fun b0 b1 b2 b3 b4 b5 hb hlt => ih b0 b1 b2 b3 b4 b5 hb (Nat.lt_of_lt_of_le hlt (Nat.le_of_lt_succ hm)))
  exact fun a0 a1 a2 a3 a4 a5 h => ⟨_, key _ a0 a1 a2 a3 a4 a5 h (Nat.lt_succ_self _)⟩
theorem lp_Ans_markWanted_32 {post : St → Prop} (I : Nat → Nat → Int32 → St → Prop) (m : Nat → Nat → Int32 → St → Nat)
    (step : ∀ (R : Nat → Nat → Int32 → St → Prop) (a0 : Nat) (a1 : Nat) (a2 : Int32) (a3 : St), I a0 a1 a2 a3 → (∀ (b0 : Nat) (b1 : Nat) (b2 : Int32) (b3 : St), I b0 b1 b2 b3 → m b0 b1 b2 b3 < m a0 a1 a2 a3 → R b0 b1 b2 b3) → j_Ans_markWanted_32 post R a0 a1 a2 a3) :
    ∀ (a0 : Nat) (a1 : Nat) (a2 : Int32) (a3 : St), I a0 a1 a2 a3 → ∃ n : Nat, wl_Ans_markWanted_32 post n a0 a1 a2 a3 := by
  have key : ∀ (n : Nat) (a0 : Nat) (a1 : Nat) (a2 : Int32) (a3 : St), I a0 a1 a2 a3 → m a0 a1 a2 a3 < n → wl_Ans_markWanted_32 post n a0 a1 a2 a3 := by
    intro n
    induction n with
    | zero => intro a0 a1 a2 a3 _ h; exact absurd h (Nat.not_lt_zero _)
    | succ n ih => intro a0 a1 a2 a3 h hm; exact step (wl_Ans_markWanted_32 post n) a0 a1 a2 a3 h (fun b0 b1 b2 b3 hb hlt => ih b0 b1 b2 b3 hb (Nat.lt_of_lt_of_le hlt (Nat.le_of_lt_succ hm)))
  exact fun a0 a1 a2 a3 h => ⟨_, key _ a0 a1 a2 a3 h (Nat.lt_succ_self _)⟩
theorem lp_Ans_markWanted_10 {post : St → Prop} (I : Nat → Nat → Int32 → St → Prop) (m : Nat → Nat → Int32 → St → Nat)
    (step : ∀ (R : Nat → Nat → Int32 → St → Prop) (a0 : Nat) (a1 : Nat) (a2 : Int32) (a3 : St), I a0 a1 a2 a3 → (∀ (b0 : Nat) (b1 : Nat) (b2 : Int32) (b3 : St), I b0 b1 b2 b3 → m b0 b1 b2 b3 < m a0 a1 a2 a3 → R b0 b1 b2 b3) → j_Ans_markWanted_10 post R a0 a1 a2 a3) :
    ∀ (a0 : Nat) (a1 : Nat) (a2 : Int32) (a3 : St), I a0 a1 a2 a3 → ∃ n : Nat, wl_Ans_markWanted_10 post n a0 a1 a2 a3 := by
  have key : ∀ (n : Nat) (a0 : Nat) (a1 : Nat) (a2 : Int32) (a3 : St), I a0 a1 a2 a3 → m a0 a1 a2 a3 < n → wl_Ans_markWanted_10 post n a0 a1 a2 a3 := by
    intro n
    induction n with
    | zero => intro a0 a1 a2 a3 _ h; exact absurd h (Nat.not_lt_zero _)
    | succ n ih => intro a0 a1 a2 a3 h hm; exact step (wl_Ans_markWanted_10 post n) a0 a1 a2 a3 h (fun b0 b1 b2 b3 hb hlt => ih b0 b1 b2 b3 hb (Nat.lt_of_lt_of_le hlt (Nat.le_of_lt_succ hm)))
  exact fun a0 a1 a2 a3 h => ⟨_, key _ a0 a1 a2 a3 h (Nat.lt_succ_self _)⟩
theorem lp_Ans_fill_74 {post : Int32 → St → Prop} (I : Nat → Nat → Nat → Int32 → St → Prop) (m : Nat → Nat → Nat → Int32 → St → Nat)
    (step : ∀ (R : Nat → Nat → Nat → Int32 → St → Prop) (a0 : Nat) (a1 : Nat) (a2 : Nat) (a3 : Int32) (a4 : St), I a0 a1 a2 a3 a4 → (∀ (b0 : Nat) (b1 : Nat) (b2 : Nat) (b3 : Int32) (b4 : St), I b0 b1 b2 b3 b4 → m b0 b1 b2 b3 b4 < m a0 a1 a2 a3 a4 → R b0 b1 b2 b3 b4) → j_Ans_fill_74 post R a0 a1 a2 a3 a4) :
    ∀ (a0 : Nat) (a1 : Nat) (a2 : Nat) (a3 : Int32) (a4 : St), I a0 a1 a2 a3 a4 → ∃ n : Nat, wl_Ans_fill_74 post n a0 a1 a2 a3 a4 := by
  have key : ∀ (n : Nat) (a0 : Nat) (a1 : Nat) (a2 : Nat) (a3 : Int32) (a4 : St), I a0 a1 a2 a3 a4 → m a0 a1 a2 a3 a4 < n → wl_Ans_fill_74 post n a0 a1 a2 a3 a4 := by
    intro n
    induction n with
    | zero => intro a0 a1 a2 a3 a4 _ h; exact absurd h (Nat.not_lt_zero _)
    | succ n ih => intro a0 a1 a2 a3 a4 h hm; exact step (wl_Ans_fill_74 post n) a0 a1 a2 a3 a4 h (fun b0 b1 b2 b3 b4 hb hlt => ih b0 b1 b2 b3 b4 hb (Nat.lt_of_lt_of_le hlt (Nat.le_of_lt_succ hm)))
  exact fun a0 a1 a2 a3 a4 h => ⟨_, key _ a0 a1 a2 a3 a4 h (Nat.lt_succ_self _)⟩
theorem lp_Ans_markAsked_23 {post : St → Prop} (I : Nat → Int32 → St → Prop) (m : Nat → Int32 → St → Nat)
    (step : ∀ (R : Nat → Int32 → St → Prop) (a0 : Nat) (a1 : Int32) (a2 : St), I a0 a1 a2 → (∀ (b0 : Nat) (b1 : Int32) (b2 : St), I b0 b1 b2 → m b0 b1 b2 < m a0 a1 a2 → R b0 b1 b2) → j_Ans_markAsked_23 post R a0 a1 a2) :
    ∀ (a0 : Nat) (a1 : Int32) (a2 : St), I a0 a1 a2 → ∃ n : Nat, wl_Ans_markAsked_23 post n a0 a1 a2 := by
  have key : ∀ (n : Nat) (a0 : Nat) (a1 : Int32) (a2 : St), I a0 a1 a2 → m a0 a1 a2 < n → wl_Ans_markAsked_23 post n a0 a1 a2 := by
    intro n
    induction n with
    | zero => intro a0 a1 a2 _ h; exact absurd h (Nat.not_lt_zero _)
    | succ n ih => intro a0 a1 a2 h hm; exact step (wl_Ans_markAsked_23 post n) a0 a1 a2 h (fun b0 b1 b2 hb hlt => ih b0 b1 b2 hb (Nat.lt_of_lt_of_le hlt (Nat.le_of_lt_succ hm)))
  exact fun a0 a1 a2 h => ⟨_, key _ a0 a1 a2 h (Nat.lt_succ_self _)⟩
theorem lp_Ans_markAsked_2 {post : St → Prop} (I : Nat → Int32 → St → Prop) (m : Nat → Int32 → St → Nat)
    (step : ∀ (R : Nat → Int32 → St → Prop) (a0 : Nat) (a1 : Int32) (a2 : St), I a0 a1 a2 → (∀ (b0 : Nat) (b1 : Int32) (b2 : St), I b0 b1 b2 → m b0 b1 b2 < m a0 a1 a2 → R b0 b1 b2) → j_Ans_markAsked_2 post R a0 a1 a2) :
    ∀ (a0 : Nat) (a1 : Int32) (a2 : St), I a0 a1 a2 → ∃ n : Nat, wl_Ans_markAsked_2 post n a0 a1 a2 := by
  have key : ∀ (n : Nat) (a0 : Nat) (a1 : Int32) (a2 : St), I a0 a1 a2 → m a0 a1 a2 < n → wl_Ans_markAsked_2 post n a0 a1 a2 := by
    intro n
    induction n with
    | zero => intro a0 a1 a2 _ h; exact absurd h (Nat.not_lt_zero _)
    | succ n ih => intro a0 a1 a2 h hm; exact step (wl_Ans_markAsked_2 post n) a0 a1 a2 h (fun b0 b1 b2 hb hlt => ih b0 b1 b2 hb (Nat.lt_of_lt_of_le hlt (Nat.le_of_lt_succ hm)))
  exact fun a0 a1 a2 h => ⟨_, key _ a0 a1 a2 h (Nat.lt_succ_self _)⟩
theorem lp_Ans_countStretches_142 {post : St → Prop} {rec65 : Nat → Int32 → Int32 → Int32 → Int32 → Int32 → St → Prop} (I : Nat → Int32 → Int32 → Int32 → Int32 → Int32 → Int32 → St → Prop) (m : Nat → Int32 → Int32 → Int32 → Int32 → Int32 → Int32 → St → Nat)
    (step : ∀ (R : Nat → Int32 → Int32 → Int32 → Int32 → Int32 → Int32 → St → Prop) (a0 : Nat) (a1 : Int32) (a2 : Int32) (a3 : Int32) (a4 : Int32) (a5 : Int32) (a6 : Int32) (a7 : St), I a0 a1 a2 a3 a4 a5 a6 a7 → (∀ (b0 : Nat) (b1 : Int32) (b2 : Int32) (b3 : Int32) (b4 : Int32) (b5 : Int32) (b6 : Int32) (b7 : St), I b0 b1 b2 b3 b4 b5 b6 b7 → m b0 b1 b2 b3 b4 b5 b6 b7 < m a0 a1 a2 a3 a4 a5 a6 a7 → R b0 b1 b2 b3 b4 b5 b6 b7) → j_Ans_countStretches_142 post rec65 R a0 a1 a2 a3 a4 a5 a6 a7) :
    ∀ (a0 : Nat) (a1 : Int32) (a2 : Int32) (a3 : Int32) (a4 : Int32) (a5 : Int32) (a6 : Int32) (a7 : St), I a0 a1 a2 a3 a4 a5 a6 a7 → ∃ n : Nat, wl_Ans_countStretches_142 post rec65 n a0 a1 a2 a3 a4 a5 a6 a7 := by
  have key : ∀ (n : Nat) (a0 : Nat) (a1 : Int32) (a2 : Int32) (a3 : Int32) (a4 : Int32) (a5 : Int32) (a6 : Int32) (a7 : St), I a0 a1 a2 a3 a4 a5 a6 a7 → m a0 a1 a2 a3 a4 a5 a6 a7 < n → wl_Ans_countStretches_142 post rec65 n a0 a1 a2 a3 a4 a5 a6 a7 := by
    intro n
    induction n with
    | zero => intro a0 a1 a2 a3 a4 a5 a6 a7 _ h; exact absurd h (Nat.not_lt_zero _)
    | succ n ih => intro a0 a1 a2 a3 a4 a5 a6 a7 h hm; exact step (wl_Ans_countStretches_142 post rec65 n) a0 a1 a2 a3 a4 a5 a6 a7 h (fun b0 b1 b2 b3 b4 b5 b6 b7 hb hlt => ih b0 b1 b2 b3 b4 b5 b6 b7 hb (Nat.lt_of_lt_of_le hlt (Nat.le_of_lt_succ hm)))
  exact fun a0 a1 a2 a3 a4 a5 a6 a7 h => ⟨_, key _ a0 a1 a2 a3 a4 a5 a6 a7 h (Nat.lt_succ_self _)⟩
theorem lp_Ans_countStretches_103 {post : St → Prop} {rec65 : Nat → Int32 → Int32 → Int32 → Int32 → Int32 → St → Prop} (I : Nat → Int32 → Int32 → Int32 → Int32 → Int32 → Int32 → St → Prop) (m : Nat → Int32 → Int32 → Int32 → Int32 → Int32 → Int32 → St → Nat)
    (step : ∀ (R : Nat → Int32 → Int32 → Int32 → Int32 → Int32 → Int32 → St → Prop) (a0 : Nat) (a1 : Int32) (a2 : Int32) (a3 : Int32) (a4 : Int32) (a5 : Int32) (a6 : Int32) (a7 : St), I a0 a1 a2 a3 a4 a5 a6 a7 → (∀ (b0 : Nat) (b1 : Int32) (b2 : Int32) (b3 : Int32) (b4 : Int32) (b5 : Int32) (b6 : Int32) (b7 : St), I b0 b1 b2 b3 b4 b5 b6 b7 → m b0 b1 b2 b3 b4 b5 b6 b7 < m a0 a1 a2 a3 a4 a5 a6 a7 → R b0 b1 b2 b3 b4 b5 b6 b7) → j_Ans_countStretches_103 post rec65 R a0 a1 a2 a3 a4 a5 a6 a7) :
    ∀ (a0 : Nat) (a1 : Int32) (a2 : Int32) (a3 : Int32) (a4 : Int32) (a5 : Int32) (a6 : Int32) (a7 : St), I a0 a1 a2 a3 a4 a5 a6 a7 → ∃ n : Nat, wl_Ans_countStretches_103 post rec65 n a0 a1 a2 a3 a4 a5 a6 a7 := by
  have key : ∀ (n : Nat) (a0 : Nat) (a1 : Int32) (a2 : Int32) (a3 : Int32) (a4 : Int32) (a5 : Int32) (a6 : Int32) (a7 : St), I a0 a1 a2 a3 a4 a5 a6 a7 → m a0 a1 a2 a3 a4 a5 a6 a7 < n → wl_Ans_countStretches_103 post rec65 n a0 a1 a2 a3 a4 a5 a6 a7 := by
    intro n
    induction n with
    | zero => intro a0 a1 a2 a3 a4 a5 a6 a7 _ h; exact absurd h (Nat.not_lt_zero _)
    | succ n ih => intro a0 a1 a2 a3 a4 a5 a6 a7 h hm; exact step (wl_Ans_countStretches_103 post rec65 n) a0 a1 a2 a3 a4 a5 a6 a7 h (fun b0 b1 b2 b3 b4 b5 b6 b7 hb hlt => ih b0 b1 b2 b3 b4 b5 b6 b7 hb (Nat.lt_of_lt_of_le hlt (Nat.le_of_lt_succ hm)))
  exact fun a0 a1 a2 a3 a4 a5 a6 a7 h => ⟨_, key _ a0 a1 a2 a3 a4 a5 a6 a7 h (Nat.lt_succ_self _)⟩
theorem lp_Ans_countStretches_65 {post : St → Prop} (I : Nat → Int32 → Int32 → Int32 → Int32 → Int32 → St → Prop) (m : Nat → Int32 → Int32 → Int32 → Int32 → Int32 → St → Nat)
    (step : ∀ (R : Nat → Int32 → Int32 → Int32 → Int32 → Int32 → St → Prop) (a0 : Nat) (a1 : Int32) (a2 : Int32) (a3 : Int32) (a4 : Int32) (a5 : Int32) (a6 : St), I a0 a1 a2 a3 a4 a5 a6 → (∀ (b0 : Nat) (b1 : Int32) (b2 : Int32) (b3 : Int32) (b4 : Int32) (b5 : Int32) (b6 : St), I b0 b1 b2 b3 b4 b5 b6 → m b0 b1 b2 b3 b4 b5 b6 < m a0 a1 a2 a3 a4 a5 a6 → R b0 b1 b2 b3 b4 b5 b6) → j_Ans_countStretches_65 post R a0 a1 a2 a3 a4 a5 a6) :
    ∀ (a0 : Nat) (a1 : Int32) (a2 : Int32) (a3 : Int32) (a4 : Int32) (a5 : Int32) (a6 : St), I a0 a1 a2 a3 a4 a5 a6 → ∃ n : Nat, wl_Ans_countStretches_65 post n a0 a1 a2 a3 a4 a5 a6 := by
  have key : ∀ (n : Nat) (a0 : Nat) (a1 : Int32) (a2 : Int32) (a3 : Int32) (a4 : Int32) (a5 : Int32) (a6 : St), I a0 a1 a2 a3 a4 a5 a6 → m a0 a1 a2 a3 a4 a5 a6 < n → wl_Ans_countStretches_65 post n a0 a1 a2 a3 a4 a5 a6 := by
    intro n
    induction n with
    | zero => intro a0 a1 a2 a3 a4 a5 a6 _ h; exact absurd h (Nat.not_lt_zero _)
    | succ n ih => intro a0 a1 a2 a3 a4 a5 a6 h hm; exact step (wl_Ans_countStretches_65 post n) a0 a1 a2 a3 a4 a5 a6 h (fun b0 b1 b2 b3 b4 b5 b6 hb hlt => ih b0 b1 b2 b3 b4 b5 b6 hb (Nat.lt_of_lt_of_le hlt (Nat.le_of_lt_succ hm)))
  exact fun a0 a1 a2 a3 a4 a5 a6 h => ⟨_, key _ a0 a1 a2 a3 a4 a5 a6 h (Nat.lt_succ_self _)⟩
theorem lp_Ans_countStretches_36 {post : St → Prop} (I : Nat → Int32 → Int32 → Int32 → Int32 → St → Prop) (m : Nat → Int32 → Int32 → Int32 → Int32 → St → Nat)
    (step : ∀ (R : Nat → Int32 → Int32 → Int32 → Int32 → St → Prop) (a0 : Nat) (a1 : Int32) (a2 : Int32) (a3 : Int32) (a4 : Int32) (a5 : St), I a0 a1 a2 a3 a4 a5 → (∀ (b0 : Nat) (b1 : Int32) (b2 : Int32) (b3 : Int32) (b4 : Int32) (b5 : St), I b0 b1 b2 b3 b4 b5 → m b0 b1 b2 b3 b4 b5 < m a0 a1 a2 a3 a4 a5 → R b0 b1 b2 b3 b4 b5) → j_Ans_countStretches_36 post R a0 a1 a2 a3 a4 a5) :
    ∀ (a0 : Nat) (a1 : Int32) (a2 : Int32) (a3 : Int32) (a4 : Int32) (a5 : St), I a0 a1 a2 a3 a4 a5 → ∃ n : Nat, wl_Ans_countStretches_36 post n a0 a1 a2 a3 a4 a5 := by
  have key : ∀ (n : Nat) (a0 : Nat) (a1 : Int32) (a2 : Int32) (a3 : Int32) (a4 : Int32) (a5 : St), I a0 a1 a2 a3 a4 a5 → m a0 a1 a2 a3 a4 a5 < n → wl_Ans_countStretches_36 post n a0 a1 a2 a3 a4 a5 := by
    intro n
    induction n with
    | zero => intro a0 a1 a2 a3 a4 a5 _ h; exact absurd h (Nat.not_lt_zero _)
    | succ n ih => intro a0 a1 a2 a3 a4 a5 h hm; exact step (wl_Ans_countStretches_36 post n) a0 a1 a2 a3 a4 a5 h (fun b0 b1 b2 b3 b4 b5 hb hlt => ih b0 b1 b2 b3 b4 b5 hb (Nat.lt_of_lt_of_le hlt (Nat.le_of_lt_succ hm)))
  exact fun a0 a1 a2 a3 a4 a5 h => ⟨_, key _ a0 a1 a2 a3 a4 a5 h (Nat.lt_succ_self _)⟩
theorem lp_Ans_countSkipped_39 {post : St → Prop} {rec16 : Nat → Int32 → St → Prop} (I : Nat → Int32 → Int32 → St → Prop) (m : Nat → Int32 → Int32 → St → Nat)
    (step : ∀ (R : Nat → Int32 → Int32 → St → Prop) (a0 : Nat) (a1 : Int32) (a2 : Int32) (a3 : St), I a0 a1 a2 a3 → (∀ (b0 : Nat) (b1 : Int32) (b2 : Int32) (b3 : St), I b0 b1 b2 b3 → m b0 b1 b2 b3 < m a0 a1 a2 a3 → R b0 b1 b2 b3) → j_Ans_countSkipped_39 post rec16 R a0 a1 a2 a3) :
    ∀ (a0 : Nat) (a1 : Int32) (a2 : Int32) (a3 : St), I a0 a1 a2 a3 → ∃ n : Nat, wl_Ans_countSkipped_39 post rec16 n a0 a1 a2 a3 := by
  have key : ∀ (n : Nat) (a0 : Nat) (a1 : Int32) (a2 : Int32) (a3 : St), I a0 a1 a2 a3 → m a0 a1 a2 a3 < n → wl_Ans_countSkipped_39 post rec16 n a0 a1 a2 a3 := by
    intro n
    induction n with
    | zero => intro a0 a1 a2 a3 _ h; exact absurd h (Nat.not_lt_zero _)
    | succ n ih => intro a0 a1 a2 a3 h hm; exact step (wl_Ans_countSkipped_39 post rec16 n) a0 a1 a2 a3 h (fun b0 b1 b2 b3 hb hlt => ih b0 b1 b2 b3 hb (Nat.lt_of_lt_of_le hlt (Nat.le_of_lt_succ hm)))
  exact fun a0 a1 a2 a3 h => ⟨_, key _ a0 a1 a2 a3 h (Nat.lt_succ_self _)⟩
theorem lp_Ans_countSkipped_16 {post : St → Prop} (I : Nat → Int32 → St → Prop) (m : Nat → Int32 → St → Nat)
    (step : ∀ (R : Nat → Int32 → St → Prop) (a0 : Nat) (a1 : Int32) (a2 : St), I a0 a1 a2 → (∀ (b0 : Nat) (b1 : Int32) (b2 : St), I b0 b1 b2 → m b0 b1 b2 < m a0 a1 a2 → R b0 b1 b2) → j_Ans_countSkipped_16 post R a0 a1 a2) :
    ∀ (a0 : Nat) (a1 : Int32) (a2 : St), I a0 a1 a2 → ∃ n : Nat, wl_Ans_countSkipped_16 post n a0 a1 a2 := by
  have key : ∀ (n : Nat) (a0 : Nat) (a1 : Int32) (a2 : St), I a0 a1 a2 → m a0 a1 a2 < n → wl_Ans_countSkipped_16 post n a0 a1 a2 := by
    intro n
    induction n with
    | zero => intro a0 a1 a2 _ h; exact absurd h (Nat.not_lt_zero _)
    | succ n ih => intro a0 a1 a2 h hm; exact step (wl_Ans_countSkipped_16 post n) a0 a1 a2 h (fun b0 b1 b2 hb hlt => ih b0 b1 b2 hb (Nat.lt_of_lt_of_le hlt (Nat.le_of_lt_succ hm)))
  exact fun a0 a1 a2 h => ⟨_, key _ a0 a1 a2 h (Nat.lt_succ_self _)⟩
theorem lp_V_layFour_3 {post : St → Prop} (I : Nat → Int32 → Int32 → Nat → Nat → St → Prop) (m : Nat → Int32 → Int32 → Nat → Nat → St → Nat)
    (step : ∀ (R : Nat → Int32 → Int32 → Nat → Nat → St → Prop) (a0 : Nat) (a1 : Int32) (a2 : Int32) (a3 : Nat) (a4 : Nat) (a5 : St), I a0 a1 a2 a3 a4 a5 → (∀ (b0 : Nat) (b1 : Int32) (b2 : Int32) (b3 : Nat) (b4 : Nat) (b5 : St), I b0 b1 b2 b3 b4 b5 → m b0 b1 b2 b3 b4 b5 < m a0 a1 a2 a3 a4 a5 → R b0 b1 b2 b3 b4 b5) → j_V_layFour_3 post R a0 a1 a2 a3 a4 a5) :
    ∀ (a0 : Nat) (a1 : Int32) (a2 : Int32) (a3 : Nat) (a4 : Nat) (a5 : St), I a0 a1 a2 a3 a4 a5 → ∃ n : Nat, wl_V_layFour_3 post n a0 a1 a2 a3 a4 a5 := by
  have key : ∀ (n : Nat) (a0 : Nat) (a1 : Int32) (a2 : Int32) (a3 : Nat) (a4 : Nat) (a5 : St), I a0 a1 a2 a3 a4 a5 → m a0 a1 a2 a3 a4 a5 < n → wl_V_layFour_3 post n a0 a1 a2 a3 a4 a5 := by
    intro n
    induction n with
    | zero => intro a0 a1 a2 a3 a4 a5 _ h; exact absurd h (Nat.not_lt_zero _)
    | succ n ih => intro a0 a1 a2 a3 a4 a5 h hm; exact step (wl_V_layFour_3 post n) a0 a1 a2 a3 a4 a5 h (fun b0 b1 b2 b3 b4 b5 hb hlt => ih b0 b1 b2 b3 b4 b5 hb (Nat.lt_of_lt_of_le hlt (Nat.le_of_lt_succ hm)))
  exact fun a0 a1 a2 a3 a4 a5 h => ⟨_, key _ a0 a1 a2 a3 a4 a5 h (Nat.lt_succ_self _)⟩
theorem lp_Snk_putVarint_5 {post : St → Prop} (I : Nat → Int64 → Int64 → Int32 → Nat → Nat → St → Prop) (m : Nat → Int64 → Int64 → Int32 → Nat → Nat → St → Nat)
    (step : ∀ (R : Nat → Int64 → Int64 → Int32 → Nat → Nat → St → Prop) (a0 : Nat) (a1 : Int64) (a2 : Int64) (a3 : Int32) (a4 : Nat) (a5 : Nat) (a6 : St), I a0 a1 a2 a3 a4 a5 a6 → (∀ (b0 : Nat) (b1 : Int64) (b2 : Int64) (b3 : Int32) (b4 : Nat) (b5 : Nat) (b6 : St), I b0 b1 b2 b3 b4 b5 b6 → m b0 b1 b2 b3 b4 b5 b6 < m a0 a1 a2 a3 a4 a5 a6 → R b0 b1 b2 b3 b4 b5 b6) → j_Snk_putVarint_5 post R a0 a1 a2 a3 a4 a5 a6) :
    ∀ (a0 : Nat) (a1 : Int64) (a2 : Int64) (a3 : Int32) (a4 : Nat) (a5 : Nat) (a6 : St), I a0 a1 a2 a3 a4 a5 a6 → ∃ n : Nat, wl_Snk_putVarint_5 post n a0 a1 a2 a3 a4 a5 a6 := by
  have key : ∀ (n : Nat) (a0 : Nat) (a1 : Int64) (a2 : Int64) (a3 : Int32) (a4 : Nat) (a5 : Nat) (a6 : St), I a0 a1 a2 a3 a4 a5 a6 → m a0 a1 a2 a3 a4 a5 a6 < n → wl_Snk_putVarint_5 post n a0 a1 a2 a3 a4 a5 a6 := by
    intro n
    induction n with
    | zero => intro a0 a1 a2 a3 a4 a5 a6 _ h; exact absurd h (Nat.not_lt_zero _)
    | succ n ih => intro a0 a1 a2 a3 a4 a5 a6 h hm; exact step (wl_Snk_putVarint_5 post n) a0 a1 a2 a3 a4 a5 a6 h (fun b0 b1 b2 b3 b4 b5 b6 hb hlt => ih b0 b1 b2 b3 b4 b5 b6 hb (Nat.lt_of_lt_of_le hlt (Nat.le_of_lt_succ hm)))
  exact fun a0 a1 a2 a3 a4 a5 a6 h => ⟨_, key _ a0 a1 a2 a3 a4 a5 a6 h (Nat.lt_succ_self _)⟩
theorem lp_Wrt_begin_72 {post : St → Prop} (I : Nat → Nat → Nat → Int32 → Int32 → Nat → Nat → St → Prop) (m : Nat → Nat → Nat → Int32 → Int32 → Nat → Nat → St → Nat)
    (step : ∀ (R : Nat → Nat → Nat → Int32 → Int32 → Nat → Nat → St → Prop) (a0 : Nat) (a1 : Nat) (a2 : Nat) (a3 : Int32) (a4 : Int32) (a5 : Nat) (a6 : Nat) (a7 : St), I a0 a1 a2 a3 a4 a5 a6 a7 → (∀ (b0 : Nat) (b1 : Nat) (b2 : Nat) (b3 : Int32) (b4 : Int32) (b5 : Nat) (b6 : Nat) (b7 : St), I b0 b1 b2 b3 b4 b5 b6 b7 → m b0 b1 b2 b3 b4 b5 b6 b7 < m a0 a1 a2 a3 a4 a5 a6 a7 → R b0 b1 b2 b3 b4 b5 b6 b7) → j_Wrt_begin_72 post R a0 a1 a2 a3 a4 a5 a6 a7) :
    ∀ (a0 : Nat) (a1 : Nat) (a2 : Nat) (a3 : Int32) (a4 : Int32) (a5 : Nat) (a6 : Nat) (a7 : St), I a0 a1 a2 a3 a4 a5 a6 a7 → ∃ n : Nat, wl_Wrt_begin_72 post n a0 a1 a2 a3 a4 a5 a6 a7 := by
  have key : ∀ (n : Nat) (a0 : Nat) (a1 : Nat) (a2 : Nat) (a3 : Int32) (a4 : Int32) (a5 : Nat) (a6 : Nat) (a7 : St), I a0 a1 a2 a3 a4 a5 a6 a7 → m a0 a1 a2 a3 a4 a5 a6 a7 < n → wl_Wrt_begin_72 post n a0 a1 a2 a3 a4 a5 a6 a7 := by
    intro n
    induction n with
    | zero => intro a0 a1 a2 a3 a4 a5 a6 a7 _ h; exact absurd h (Nat.not_lt_zero _)
    | succ n ih => intro a0 a1 a2 a3 a4 a5 a6 a7 h hm; exact step (wl_Wrt_begin_72 post n) a0 a1 a2 a3 a4 a5 a6 a7 h (fun b0 b1 b2 b3 b4 b5 b6 b7 hb hlt => ih b0 b1 b2 b3 b4 b5 b6 b7 hb (Nat.lt_of_lt_of_le hlt (Nat.le_of_lt_succ hm)))
  exact fun a0 a1 a2 a3 a4 a5 a6 a7 h => ⟨_, key _ a0 a1 a2 a3 a4 a5 a6 a7 h (Nat.lt_succ_self _)⟩
theorem lp_Snk_putFixed_3 {post : St → Prop} (I : Nat → Int64 → Int32 → Int32 → Nat → Nat → St → Prop) (m : Nat → Int64 → Int32 → Int32 → Nat → Nat → St → Nat)
    (step : ∀ (R : Nat → Int64 → Int32 → Int32 → Nat → Nat → St → Prop) (a0 : Nat) (a1 : Int64) (a2 : Int32) (a3 : Int32) (a4 : Nat) (a5 : Nat) (a6 : St), I a0 a1 a2 a3 a4 a5 a6 → (∀ (b0 : Nat) (b1 : Int64) (b2 : Int32) (b3 : Int32) (b4 : Nat) (b5 : Nat) (b6 : St), I b0 b1 b2 b3 b4 b5 b6 → m b0 b1 b2 b3 b4 b5 b6 < m a0 a1 a2 a3 a4 a5 a6 → R b0 b1 b2 b3 b4 b5 b6) → j_Snk_putFixed_3 post R a0 a1 a2 a3 a4 a5 a6) :
    ∀ (a0 : Nat) (a1 : Int64) (a2 : Int32) (a3 : Int32) (a4 : Nat) (a5 : Nat) (a6 : St), I a0 a1 a2 a3 a4 a5 a6 → ∃ n : Nat, wl_Snk_putFixed_3 post n a0 a1 a2 a3 a4 a5 a6 := by
  have key : ∀ (n : Nat) (a0 : Nat) (a1 : Int64) (a2 : Int32) (a3 : Int32) (a4 : Nat) (a5 : Nat) (a6 : St), I a0 a1 a2 a3 a4 a5 a6 → m a0 a1 a2 a3 a4 a5 a6 < n → wl_Snk_putFixed_3 post n a0 a1 a2 a3 a4 a5 a6 := by
    intro n
    induction n with
    | zero => intro a0 a1 a2 a3 a4 a5 a6 _ h; exact absurd h (Nat.not_lt_zero _)
    | succ n ih => intro a0 a1 a2 a3 a4 a5 a6 h hm; exact step (wl_Snk_putFixed_3 post n) a0 a1 a2 a3 a4 a5 a6 h (fun b0 b1 b2 b3 b4 b5 b6 hb hlt => ih b0 b1 b2 b3 b4 b5 b6 hb (Nat.lt_of_lt_of_le hlt (Nat.le_of_lt_succ hm)))
  exact fun a0 a1 a2 a3 a4 a5 a6 h => ⟨_, key _ a0 a1 a2 a3 a4 a5 a6 h (Nat.lt_succ_self _)⟩
theorem lp_Wrt_putPlain_77 {post : St → Prop} (I : Nat → Int32 → Nat → Int32 → Int32 → Nat → Nat → St → Prop) (m : Nat → Int32 → Nat → Int32 → Int32 → Nat → Nat → St → Nat)
    (step : ∀ (R : Nat → Int32 → Nat → Int32 → Int32 → Nat → Nat → St → Prop) (a0 : Nat) (a1 : Int32) (a2 : Nat) (a3 : Int32) (a4 : Int32) (a5 : Nat) (a6 : Nat) (a7 : St), I a0 a1 a2 a3 a4 a5 a6 a7 → (∀ (b0 : Nat) (b1 : Int32) (b2 : Nat) (b3 : Int32) (b4 : Int32) (b5 : Nat) (b6 : Nat) (b7 : St), I b0 b1 b2 b3 b4 b5 b6 b7 → m b0 b1 b2 b3 b4 b5 b6 b7 < m a0 a1 a2 a3 a4 a5 a6 a7 → R b0 b1 b2 b3 b4 b5 b6 b7) → j_Wrt_putPlain_77 post R a0 a1 a2 a3 a4 a5 a6 a7) :
    ∀ (a0 : Nat) (a1 : Int32) (a2 : Nat) (a3 : Int32) (a4 : Int32) (a5 : Nat) (a6 : Nat) (a7 : St), I a0 a1 a2 a3 a4 a5 a6 a7 → ∃ n : Nat, wl_Wrt_putPlain_77 post n a0 a1 a2 a3 a4 a5 a6 a7 := by
  have key : ∀ (n : Nat) (a0 : Nat) (a1 : Int32) (a2 : Nat) (a3 : Int32) (a4 : Int32) (a5 : Nat) (a6 : Nat) (a7 : St), I a0 a1 a2 a3 a4 a5 a6 a7 → m a0 a1 a2 a3 a4 a5 a6 a7 < n → wl_Wrt_putPlain_77 post n a0 a1 a2 a3 a4 a5 a6 a7 := by
    intro n
    induction n with
    | zero => intro a0 a1 a2 a3 a4 a5 a6 a7 _ h; exact absurd h (Nat.not_lt_zero _)
    | succ n ih => intro a0 a1 a2 a3 a4 a5 a6 a7 h hm; exact step (wl_Wrt_putPlain_77 post n) a0 a1 a2 a3 a4 a5 a6 a7 h (fun b0 b1 b2 b3 b4 b5 b6 b7 hb hlt => ih b0 b1 b2 b3 b4 b5 b6 b7 hb (Nat.lt_of_lt_of_le hlt (Nat.le_of_lt_succ hm)))
  exact fun a0 a1 a2 a3 a4 a5 a6 a7 h => ⟨_, key _ a0 a1 a2 a3 a4 a5 a6 a7 h (Nat.lt_succ_self _)⟩
theorem lp_Wrt_putPlain_20 {post : St → Prop} {rec7 : Nat → Int32 → Nat → Int32 → Int32 → Nat → Nat → St → Prop} (I : Nat → Int32 → Nat → Int32 → Int32 → Int32 → Int32 → Nat → Nat → St → Prop) (m : Nat → Int32 → Nat → Int32 → Int32 → Int32 → Int32 → Nat → Nat → St → Nat)
    (step : ∀ (R : Nat → Int32 → Nat → Int32 → Int32 → Int32 → Int32 → Nat → Nat → St → Prop) (a0 : Nat) (a1 : Int32) (a2 : Nat) (a3 : Int32) (a4 : Int32) (a5 : Int32) (a6 : Int32) (a7 : Nat) (a8 : Nat) (a9 : St), I a0 a1 a2 a3 a4 a5 a6 a7 a8 a9 → (∀ (b0 : Nat) (b1 : Int32) (b2 : Nat) (b3 : Int32) (b4 : Int32) (b5 : Int32) (b6 : Int32) (b7 : Nat) (b8 : Nat) (b9 : St), I b0 b1 b2 b3 b4 b5 b6 b7 b8 b9 → m b0 b1 b2 b3 b4 b5 b6 b7 b8 b9 < m a0 a1 a2 a3 a4 a5 a6 a7 a8 a9 → R b0 b1 b2 b3 b4 b5 b6 b7 b8 b9) → j_Wrt_putPlain_20 post rec7 R a0 a1 a2 a3 a4 a5 a6 a7 a8 a9) :
    ∀ (a0 : Nat) (a1 : Int32) (a2 : Nat) (a3 : Int32) (a4 : Int32) (a5 : Int32) (a6 : Int32) (a7 : Nat) (a8 : Nat) (a9 : St), I a0 a1 a2 a3 a4 a5 a6 a7 a8 a9 → ∃ n : Nat, wl_Wrt_putPlain_20 post rec7 n a0 a1 a2 a3 a4 a5 a6 a7 a8 a9 := by
  have key : ∀ (n : Nat) (a0 : Nat) (a1 : Int32) (a2 : Nat) (a3 : Int32) (a4 : Int32) (a5 : Int32) (a6 : Int32) (a7 : Nat) (a8 : Nat) (a9 : St), I a0 a1 a2 a3 a4 a5 a6 a7 a8 a9 → m a0 a1 a2 a3 a4 a5 a6 a7 a8 a9 < n → wl_Wrt_putPlain_20 post rec7 n a0 a1 a2 a3 a4 a5 a6 a7 a8 a9 := by
    intro n
    induction n with
    | zero => intro a0 a1 a2 a3 a4 a5 a6 a7 a8 a9 _ h; exact absurd h (Nat.not_lt_zero _)
    | succ n ih => intro a0 a1 a2 a3 a4 a5 a6 a7 a8 a9 h hm; exact step (wl_Wrt_putPlain_20 post rec7 n) a0 a1 a2 a3 a4 a5 a6 a7 a8 a9 h (fun b0 b1 b2 b3 b4 b5 b6 b7 b8 b9 hb hlt => ih b0 b1 b2 b3 b4 b5 b6 b7 b8 b9 hb (Nat.lt_of_lt_of_le hlt (Nat.le_of_lt_succ hm)))
  exact fun a0 a1 a2 a3 a4 a5 a6 a7 a8 a9 h => ⟨_, key _ a0 a1 a2 a3 a4 a5 a6 a7 a8 a9 h (Nat.lt_succ_self _)⟩
theorem lp_Wrt_putPlain_7 {post : St → Prop} (I : Nat → Int32 → Nat → Int32 → Int32 → Nat → Nat → St → Prop) (m : Nat → Int32 → Nat → Int32 → Int32 → Nat → Nat → St → Nat)
    (step : ∀ (R : Nat → Int32 → Nat → Int32 → Int32 → Nat → Nat → St → Prop) (a0 : Nat) (a1 : Int32) (a2 : Nat) (a3 : Int32) (a4 : Int32) (a5 : Nat) (a6 : Nat) (a7 : St), I a0 a1 a2 a3 a4 a5 a6 a7 → (∀ (b0 : Nat) (b1 : Int32) (b2 : Nat) (b3 : Int32) (b4 : Int32) (b5 : Nat) (b6 : Nat) (b7 : St), I b0 b1 b2 b3 b4 b5 b6 b7 → m b0 b1 b2 b3 b4 b5 b6 b7 < m a0 a1 a2 a3 a4 a5 a6 a7 → R b0 b1 b2 b3 b4 b5 b6 b7) → j_Wrt_putPlain_7 post R a0 a1 a2 a3 a4 a5 a6 a7) :
    ∀ (a0 : Nat) (a1 : Int32) (a2 : Nat) (a3 : Int32) (a4 : Int32) (a5 : Nat) (a6 : Nat) (a7 : St), I a0 a1 a2 a3 a4 a5 a6 a7 → ∃ n : Nat, wl_Wrt_putPlain_7 post n a0 a1 a2 a3 a4 a5 a6 a7 := by
  have key : ∀ (n : Nat) (a0 : Nat) (a1 : Int32) (a2 : Nat) (a3 : Int32) (a4 : Int32) (a5 : Nat) (a6 : Nat) (a7 : St), I a0 a1 a2 a3 a4 a5 a6 a7 → m a0 a1 a2 a3 a4 a5 a6 a7 < n → wl_Wrt_putPlain_7 post n a0 a1 a2 a3 a4 a5 a6 a7 := by
    intro n
    induction n with
    | zero => intro a0 a1 a2 a3 a4 a5 a6 a7 _ h; exact absurd h (Nat.not_lt_zero _)
    | succ n ih => intro a0 a1 a2 a3 a4 a5 a6 a7 h hm; exact step (wl_Wrt_putPlain_7 post n) a0 a1 a2 a3 a4 a5 a6 a7 h (fun b0 b1 b2 b3 b4 b5 b6 b7 hb hlt => ih b0 b1 b2 b3 b4 b5 b6 b7 hb (Nat.lt_of_lt_of_le hlt (Nat.le_of_lt_succ hm)))
  exact fun a0 a1 a2 a3 a4 a5 a6 a7 h => ⟨_, key _ a0 a1 a2 a3 a4 a5 a6 a7 h (Nat.lt_succ_self _)⟩
theorem lp_Snk_putBits_6 {post : St → Prop} (I : Nat → Int64 → Int32 → Int32 → Int32 → Nat → Nat → St → Prop) (m : Nat → Int64 → Int32 → Int32 → Int32 → Nat → Nat → St → Nat)
    (step : ∀ (R : Nat → Int64 → Int32 → Int32 → Int32 → Nat → Nat → St → Prop) (a0 : Nat) (a1 : Int64) (a2 : Int32) (a3 : Int32) (a4 : Int32) (a5 : Nat) (a6 : Nat) (a7 : St), I a0 a1 a2 a3 a4 a5 a6 a7 → (∀ (b0 : Nat) (b1 : Int64) (b2 : Int32) (b3 : Int32) (b4 : Int32) (b5 : Nat) (b6 : Nat) (b7 : St), I b0 b1 b2 b3 b4 b5 b6 b7 → m b0 b1 b2 b3 b4 b5 b6 b7 < m a0 a1 a2 a3 a4 a5 a6 a7 → R b0 b1 b2 b3 b4 b5 b6 b7) → j_Snk_putBits_6 post R a0 a1 a2 a3 a4 a5 a6 a7) :
    ∀ (a0 : Nat) (a1 : Int64) (a2 : Int32) (a3 : Int32) (a4 : Int32) (a5 : Nat) (a6 : Nat) (a7 : St), I a0 a1 a2 a3 a4 a5 a6 a7 → ∃ n : Nat, wl_Snk_putBits_6 post n a0 a1 a2 a3 a4 a5 a6 a7 := by
  have key : ∀ (n : Nat) (a0 : Nat) (a1 : Int64) (a2 : Int32) (a3 : Int32) (a4 : Int32) (a5 : Nat) (a6 : Nat) (a7 : St), I a0 a1 a2 a3 a4 a5 a6 a7 → m a0 a1 a2 a3 a4 a5 a6 a7 < n → wl_Snk_putBits_6 post n a0 a1 a2 a3 a4 a5 a6 a7 := by
    intro n
    induction n with
    | zero => intro a0 a1 a2 a3 a4 a5 a6 a7 _ h; exact absurd h (Nat.not_lt_zero _)
    | succ n ih => intro a0 a1 a2 a3 a4 a5 a6 a7 h hm; exact step (wl_Snk_putBits_6 post n) a0 a1 a2 a3 a4 a5 a6 a7 h (fun b0 b1 b2 b3 b4 b5 b6 b7 hb hlt => ih b0 b1 b2 b3 b4 b5 b6 b7 hb (Nat.lt_of_lt_of_le hlt (Nat.le_of_lt_succ hm)))
  exact fun a0 a1 a2 a3 a4 a5 a6 a7 h => ⟨_, key _ a0 a1 a2 a3 a4 a5 a6 a7 h (Nat.lt_succ_self _)⟩
theorem lp_Snk_putGroups_53 {post : Int32 → St → Prop} (I : Nat → Nat → Int32 → Int32 → Int32 → Int32 → Int32 → Nat → Nat → St → Prop) (m : Nat → Nat → Int32 → Int32 → Int32 → Int32 → Int32 → Nat → Nat → St → Nat)
    (step : ∀ (R : Nat → Nat → Int32 → Int32 → Int32 → Int32 → Int32 → Nat → Nat → St → Prop) (a0 : Nat) (a1 : Nat) (a2 : Int32) (a3 : Int32) (a4 : Int32) (a5 : Int32) (a6 : Int32) (a7 : Nat) (a8 : Nat) (a9 : St), I a0 a1 a2 a3 a4 a5 a6 a7 a8 a9 → (∀ (b0 : Nat) (b1 : Nat) (b2 : Int32) (b3 : Int32) (b4 : Int32) (b5 : Int32) (b6 : Int32) (b7 : Nat) (b8 : Nat) (b9 : St), I b0 b1 b2 b3 b4 b5 b6 b7 b8 b9 → m b0 b1 b2 b3 b4 b5 b6 b7 b8 b9 < m a0 a1 a2 a3 a4 a5 a6 a7 a8 a9 → R b0 b1 b2 b3 b4 b5 b6 b7 b8 b9) → j_Snk_putGroups_53 post R a0 a1 a2 a3 a4 a5 a6 a7 a8 a9) :
    ∀ (a0 : Nat) (a1 : Nat) (a2 : Int32) (a3 : Int32) (a4 : Int32) (a5 : Int32) (a6 : Int32) (a7 : Nat) (a8 : Nat) (a9 : St), I a0 a1 a2 a3 a4 a5 a6 a7 a8 a9 → ∃ n : Nat, wl_Snk_putGroups_53 post n a0 a1 a2 a3 a4 a5 a6 a7 a8 a9 := by
  have key : ∀ (n : Nat) (a0 : Nat) (a1 : Nat) (a2 : Int32) (a3 : Int32) (a4 : Int32) (a5 : Int32) (a6 : Int32) (a7 : Nat) (a8 : Nat) (a9 : St), I a0 a1 a2 a3 a4 a5 a6 a7 a8 a9 → m a0 a1 a2 a3 a4 a5 a6 a7 a8 a9 < n → wl_Snk_putGroups_53 post n a0 a1 a2 a3 a4 a5 a6 a7 a8 a9 := by
    intro n
    induction n with
    | zero => intro a0 a1 a2 a3 a4 a5 a6 a7 a8 a9 _ h; exact absurd h (Nat.not_lt_zero _)
    | succ n ih => intro a0 a1 a2 a3 a4 a5 a6 a7 a8 a9 h hm; exact step (wl_Snk_putGroups_53 post n) a0 a1 a2 a3 a4 a5 a6 a7 a8 a9 h (fun b0 b1 b2 b3 b4 b5 b6 b7 b8 b9 hb hlt => ih b0 b1 b2 b3 b4 b5 b6 b7 b8 b9 hb (Nat.lt_of_lt_of_le hlt (Nat.le_of_lt_succ hm)))
  exact fun a0 a1 a2 a3 a4 a5 a6 a7 a8 a9 h => ⟨_, key _ a0 a1 a2 a3 a4 a5 a6 a7 a8 a9 h (Nat.lt_succ_self _)⟩
theorem lp_Snk_putGroups_6 {post : Int32 → St → Prop} (I : Nat → Nat → Int32 → Int32 → Int32 → Int32 → Nat → Nat → St → Prop) (m : Nat → Nat → Int32 → Int32 → Int32 → Int32 → Nat → Nat → St → Nat)
    (step : ∀ (R : Nat → Nat → Int32 → Int32 → Int32 → Int32 → Nat → Nat → St → Prop) (a0 : Nat) (a1 : Nat) (a2 : Int32) (a3 : Int32) (a4 : Int32) (a5 : Int32) (a6 : Nat) (a7 : Nat) (a8 : St), I a0 a1 a2 a3 a4 a5 a6 a7 a8 → (∀ (b0 : Nat) (b1 : Nat) (b2 : Int32) (b3 : Int32) (b4 : Int32) (b5 : Int32) (b6 : Nat) (b7 : Nat) (b8 : St), I b0 b1 b2 b3 b4 b5 b6 b7 b8 → m b0 b1 b2 b3 b4 b5 b6 b7 b8 < m a0 a1 a2 a3 a4 a5 a6 a7 a8 → R b0 b1 b2 b3 b4 b5 b6 b7 b8) → j_Snk_putGroups_6 post R a0 a1 a2 a3 a4 a5 a6 a7 a8) :
    ∀ (a0 : Nat) (a1 : Nat) (a2 : Int32) (a3 : Int32) (a4 : Int32) (a5 : Int32) (a6 : Nat) (a7 : Nat) (a8 : St), I a0 a1 a2 a3 a4 a5 a6 a7 a8 → ∃ n : Nat, wl_Snk_putGroups_6 post n a0 a1 a2 a3 a4 a5 a6 a7 a8 := by
  have key : ∀ (n : Nat) (a0 : Nat) (a1 : Nat) (a2 : Int32) (a3 : Int32) (a4 : Int32) (a5 : Int32) (a6 : Nat) (a7 : Nat) (a8 : St), I a0 a1 a2 a3 a4 a5 a6 a7 a8 → m a0 a1 a2 a3 a4 a5 a6 a7 a8 < n → wl_Snk_putGroups_6 post n a0 a1 a2 a3 a4 a5 a6 a7 a8 := by
    intro n
    induction n with
    | zero => intro a0 a1 a2 a3 a4 a5 a6 a7 a8 _ h; exact absurd h (Nat.not_lt_zero _)
    | succ n ih => intro a0 a1 a2 a3 a4 a5 a6 a7 a8 h hm; exact step (wl_Snk_putGroups_6 post n) a0 a1 a2 a3 a4 a5 a6 a7 a8 h (fun b0 b1 b2 b3 b4 b5 b6 b7 b8 hb hlt => ih b0 b1 b2 b3 b4 b5 b6 b7 b8 hb (Nat.lt_of_lt_of_le hlt (Nat.le_of_lt_succ hm)))
  exact fun a0 a1 a2 a3 a4 a5 a6 a7 a8 h => ⟨_, key _ a0 a1 a2 a3 a4 a5 a6 a7 a8 h (Nat.lt_succ_self _)⟩
theorem lp_Snk_putRuns_6 {post : St → Prop} (I : Nat → Nat → Int32 → Int32 → Int32 → Int32 → Nat → Nat → St → Prop) (m : Nat → Nat → Int32 → Int32 → Int32 → Int32 → Nat → Nat → St → Nat)
    (step : ∀ (R : Nat → Nat → Int32 → Int32 → Int32 → Int32 → Nat → Nat → St → Prop) (a0 : Nat) (a1 : Nat) (a2 : Int32) (a3 : Int32) (a4 : Int32) (a5 : Int32) (a6 : Nat) (a7 : Nat) (a8 : St), I a0 a1 a2 a3 a4 a5 a6 a7 a8 → (∀ (b0 : Nat) (b1 : Nat) (b2 : Int32) (b3 : Int32) (b4 : Int32) (b5 : Int32) (b6 : Nat) (b7 : Nat) (b8 : St), I b0 b1 b2 b3 b4 b5 b6 b7 b8 → m b0 b1 b2 b3 b4 b5 b6 b7 b8 < m a0 a1 a2 a3 a4 a5 a6 a7 a8 → R b0 b1 b2 b3 b4 b5 b6 b7 b8) → j_Snk_putRuns_6 post R a0 a1 a2 a3 a4 a5 a6 a7 a8) :
    ∀ (a0 : Nat) (a1 : Nat) (a2 : Int32) (a3 : Int32) (a4 : Int32) (a5 : Int32) (a6 : Nat) (a7 : Nat) (a8 : St), I a0 a1 a2 a3 a4 a5 a6 a7 a8 → ∃ n : Nat, wl_Snk_putRuns_6 post n a0 a1 a2 a3 a4 a5 a6 a7 a8 := by
  have key : ∀ (n : Nat) (a0 : Nat) (a1 : Nat) (a2 : Int32) (a3 : Int32) (a4 : Int32) (a5 : Int32) (a6 : Nat) (a7 : Nat) (a8 : St), I a0 a1 a2 a3 a4 a5 a6 a7 a8 → m a0 a1 a2 a3 a4 a5 a6 a7 a8 < n → wl_Snk_putRuns_6 post n a0 a1 a2 a3 a4 a5 a6 a7 a8 := by
    intro n
    induction n with
    | zero => intro a0 a1 a2 a3 a4 a5 a6 a7 a8 _ h; exact absurd h (Nat.not_lt_zero _)
    | succ n ih => intro a0 a1 a2 a3 a4 a5 a6 a7 a8 h hm; exact step (wl_Snk_putRuns_6 post n) a0 a1 a2 a3 a4 a5 a6 a7 a8 h (fun b0 b1 b2 b3 b4 b5 b6 b7 b8 hb hlt => ih b0 b1 b2 b3 b4 b5 b6 b7 b8 hb (Nat.lt_of_lt_of_le hlt (Nat.le_of_lt_succ hm)))
  exact fun a0 a1 a2 a3 a4 a5 a6 a7 a8 h => ⟨_, key _ a0 a1 a2 a3 a4 a5 a6 a7 a8 h (Nat.lt_succ_self _)⟩
theorem lp_Wrt_putBoolRuns_2 {post : St → Prop} (I : Nat → Int32 → Nat → Nat → St → Prop) (m : Nat → Int32 → Nat → Nat → St → Nat)
    (step : ∀ (R : Nat → Int32 → Nat → Nat → St → Prop) (a0 : Nat) (a1 : Int32) (a2 : Nat) (a3 : Nat) (a4 : St), I a0 a1 a2 a3 a4 → (∀ (b0 : Nat) (b1 : Int32) (b2 : Nat) (b3 : Nat) (b4 : St), I b0 b1 b2 b3 b4 → m b0 b1 b2 b3 b4 < m a0 a1 a2 a3 a4 → R b0 b1 b2 b3 b4) → j_Wrt_putBoolRuns_2 post R a0 a1 a2 a3 a4) :
    ∀ (a0 : Nat) (a1 : Int32) (a2 : Nat) (a3 : Nat) (a4 : St), I a0 a1 a2 a3 a4 → ∃ n : Nat, wl_Wrt_putBoolRuns_2 post n a0 a1 a2 a3 a4 := by
  have key : ∀ (n : Nat) (a0 : Nat) (a1 : Int32) (a2 : Nat) (a3 : Nat) (a4 : St), I a0 a1 a2 a3 a4 → m a0 a1 a2 a3 a4 < n → wl_Wrt_putBoolRuns_2 post n a0 a1 a2 a3 a4 := by
    intro n
    induction n with
    | zero => intro a0 a1 a2 a3 a4 _ h; exact absurd h (Nat.not_lt_zero _)
    | succ n ih => intro a0 a1 a2 a3 a4 h hm; exact step (wl_Wrt_putBoolRuns_2 post n) a0 a1 a2 a3 a4 h (fun b0 b1 b2 b3 b4 hb hlt => ih b0 b1 b2 b3 b4 hb (Nat.lt_of_lt_of_le hlt (Nat.le_of_lt_succ hm)))
  exact fun a0 a1 a2 a3 a4 h => ⟨_, key _ a0 a1 a2 a3 a4 h (Nat.lt_succ_self _)⟩
theorem lp_Wrt_putDictionary_89 {post : St → Prop} (I : Nat → Int32 → Int32 → Int32 → Nat → Nat → St → Prop) (m : Nat → Int32 → Int32 → Int32 → Nat → Nat → St → Nat)
    (step : ∀ (R : Nat → Int32 → Int32 → Int32 → Nat → Nat → St → Prop) (a0 : Nat) (a1 : Int32) (a2 : Int32) (a3 : Int32) (a4 : Nat) (a5 : Nat) (a6 : St), I a0 a1 a2 a3 a4 a5 a6 → (∀ (b0 : Nat) (b1 : Int32) (b2 : Int32) (b3 : Int32) (b4 : Nat) (b5 : Nat) (b6 : St), I b0 b1 b2 b3 b4 b5 b6 → m b0 b1 b2 b3 b4 b5 b6 < m a0 a1 a2 a3 a4 a5 a6 → R b0 b1 b2 b3 b4 b5 b6) → j_Wrt_putDictionary_89 post R a0 a1 a2 a3 a4 a5 a6) :
    ∀ (a0 : Nat) (a1 : Int32) (a2 : Int32) (a3 : Int32) (a4 : Nat) (a5 : Nat) (a6 : St), I a0 a1 a2 a3 a4 a5 a6 → ∃ n : Nat, wl_Wrt_putDictionary_89 post n a0 a1 a2 a3 a4 a5 a6 := by
  have key : ∀ (n : Nat) (a0 : Nat) (a1 : Int32) (a2 : Int32) (a3 : Int32) (a4 : Nat) (a5 : Nat) (a6 : St), I a0 a1 a2 a3 a4 a5 a6 → m a0 a1 a2 a3 a4 a5 a6 < n → wl_Wrt_putDictionary_89 post n a0 a1 a2 a3 a4 a5 a6 := by
    intro n
    induction n with
    | zero => intro a0 a1 a2 a3 a4 a5 a6 _ h; exact absurd h (Nat.not_lt_zero _)
    | succ n ih => intro a0 a1 a2 a3 a4 a5 a6 h hm; exact step (wl_Wrt_putDictionary_89 post n) a0 a1 a2 a3 a4 a5 a6 h (fun b0 b1 b2 b3 b4 b5 b6 hb hlt => ih b0 b1 b2 b3 b4 b5 b6 hb (Nat.lt_of_lt_of_le hlt (Nat.le_of_lt_succ hm)))
  exact fun a0 a1 a2 a3 a4 a5 a6 h => ⟨_, key _ a0 a1 a2 a3 a4 a5 a6 h (Nat.lt_succ_self _)⟩
theorem lp_Wrt_putDictionary_4 {post : St → Prop} (I : Nat → Int32 → Int32 → Int32 → Nat → Nat → St → Prop) (m : Nat → Int32 → Int32 → Int32 → Nat → Nat → St → Nat)
    (step : ∀ (R : Nat → Int32 → Int32 → Int32 → Nat → Nat → St → Prop) (a0 : Nat) (a1 : Int32) (a2 : Int32) (a3 : Int32) (a4 : Nat) (a5 : Nat) (a6 : St), I a0 a1 a2 a3 a4 a5 a6 → (∀ (b0 : Nat) (b1 : Int32) (b2 : Int32) (b3 : Int32) (b4 : Nat) (b5 : Nat) (b6 : St), I b0 b1 b2 b3 b4 b5 b6 → m b0 b1 b2 b3 b4 b5 b6 < m a0 a1 a2 a3 a4 a5 a6 → R b0 b1 b2 b3 b4 b5 b6) → j_Wrt_putDictionary_4 post R a0 a1 a2 a3 a4 a5 a6) :
    ∀ (a0 : Nat) (a1 : Int32) (a2 : Int32) (a3 : Int32) (a4 : Nat) (a5 : Nat) (a6 : St), I a0 a1 a2 a3 a4 a5 a6 → ∃ n : Nat, wl_Wrt_putDictionary_4 post n a0 a1 a2 a3 a4 a5 a6 := by
  have key : ∀ (n : Nat) (a0 : Nat) (a1 : Int32) (a2 : Int32) (a3 : Int32) (a4 : Nat) (a5 : Nat) (a6 : St), I a0 a1 a2 a3 a4 a5 a6 → m a0 a1 a2 a3 a4 a5 a6 < n → wl_Wrt_putDictionary_4 post n a0 a1 a2 a3 a4 a5 a6 := by
    intro n
    induction n with
    | zero => intro a0 a1 a2 a3 a4 a5 a6 _ h; exact absurd h (Nat.not_lt_zero _)
    | succ n ih => intro a0 a1 a2 a3 a4 a5 a6 h hm; exact step (wl_Wrt_putDictionary_4 post n) a0 a1 a2 a3 a4 a5 a6 h (fun b0 b1 b2 b3 b4 b5 b6 hb hlt => ih b0 b1 b2 b3 b4 b5 b6 hb (Nat.lt_of_lt_of_le hlt (Nat.le_of_lt_succ hm)))
  exact fun a0 a1 a2 a3 a4 a5 a6 h => ⟨_, key _ a0 a1 a2 a3 a4 a5 a6 h (Nat.lt_succ_self _)⟩
theorem lp_Snk_putBlock_173 {post : St → Prop} {rec154 : Nat → Nat → Int32 → Int32 → Int64 → Int32 → Nat → Nat → St → Prop} (I : Nat → Nat → Int32 → Int32 → Int64 → Int32 → Int32 → Int32 → Nat → Nat → St → Prop) (m : Nat → Nat → Int32 → Int32 → Int64 → Int32 → Int32 → Int32 → Nat → Nat → St → Nat)
    (step : ∀ (R : Nat → Nat → Int32 → Int32 → Int64 → Int32 → Int32 → Int32 → Nat → Nat → St → Prop) (a0 : Nat) (a1 : Nat) (a2 : Int32) (a3 : Int32) (a4 : Int64) (a5 : Int32) (a6 : Int32) (a7 : Int32) (a8 : Nat) (a9 : Nat) (a10 : St), I a0 a1 a2 a3 a4 a5 a6 a7 a8 a9 a10 → (∀ (b0 : Nat) (b1 : Nat) (b2 : Int32) (b3 : Int32) (b4 : Int64) (b5 : Int32) (b6 : Int32) (b7 : Int32) (b8 : Nat) (b9 : Nat) (b10 : St), I b0 b1 b2 b3 b4 b5 b6 b7 b8 b9 b10 → m b0 b1 b2 b3 b4 b5 b6 b7 b8 b9 b10 < m a0 a1 a2 a3 a4 a5 a6 a7 a8 a9 a10 → R b0 b1 b2 b3 b4 b5 b6 b7 b8 b9 b10) → j_Snk_putBlock_173 post rec154 R a0 a1 a2 a3 a4 a5 a6 a7 a8 a9 a10) :
    ∀ (a0 : Nat) (a1 : Nat) (a2 : Int32) (a3 : Int32) (a4 : Int64) (a5 : Int32) (a6 : Int32) (a7 : Int32) (a8 : Nat) (a9 : Nat) (a10 : St), I a0 a1 a2 a3 a4 a5 a6 a7 a8 a9 a10 → ∃ n : Nat, wl_Snk_putBlock_173 post rec154 n a0 a1 a2 a3 a4 a5 a6 a7 a8 a9 a10 := by
  have key : ∀ (n : Nat) (a0 : Nat) (a1 : Nat) (a2 : Int32) (a3 : Int32) (a4 : Int64) (a5 : Int32) (a6 : Int32) (a7 : Int32) (a8 : Nat) (a9 : Nat) (a10 : St), I a0 a1 a2 a3 a4 a5 a6 a7 a8 a9 a10 → m a0 a1 a2 a3 a4 a5 a6 a7 a8 a9 a10 < n → wl_Snk_putBlock_173 post rec154 n a0 a1 a2 a3 a4 a5 a6 a7 a8 a9 a10 := by
    intro n
    induction n with
    | zero => intro a0 a1 a2 a3 a4 a5 a6 a7 a8 a9 a10 _ h; exact absurd h (Nat.not_lt_zero _)
    | succ n ih => intro a0 a1 a2 a3 a4 a5 a6 a7 a8 a9 a10 h hm; exact step (wl_Snk_putBlock_173 post rec154 n) a0 a1 a2 a3 a4 a5 a6 a7 a8 a9 a10 h (fun b0 b1 b2 b3 b4 b5 b6 b7 b8 b9 b10 hb hlt => ih b0 b1 b2 b3 b4 b5 b6 b7 b8 b9 b10 hb (Nat.lt_of_lt_of_le hlt (Nat.le_of_lt_succ hm)))
  exact fun a0 a1 a2 a3 a4 a5 a6 a7 a8 a9 a10 h => ⟨_, key _ a0 a1 a2 a3 a4 a5 a6 a7 a8 a9 a10 h (Nat.lt_succ_self _)⟩
theorem lp_Snk_putBlock_154 {post : St → Prop} (I : Nat → Nat → Int32 → Int32 → Int64 → Int32 → Nat → Nat → St → Prop) (m : Nat → Nat → Int32 → Int32 → Int64 → Int32 → Nat → Nat → St → Nat)
    (step : ∀ (R : Nat → Nat → Int32 → Int32 → Int64 → Int32 → Nat → Nat → St → Prop) (a0 : Nat) (a1 : Nat) (a2 : Int32) (a3 : Int32) (a4 : Int64) (a5 : Int32) (a6 : Nat) (a7 : Nat) (a8 : St), I a0 a1 a2 a3 a4 a5 a6 a7 a8 → (∀ (b0 : Nat) (b1 : Nat) (b2 : Int32) (b3 : Int32) (b4 : Int64) (b5 : Int32) (b6 : Nat) (b7 : Nat) (b8 : St), I b0 b1 b2 b3 b4 b5 b6 b7 b8 → m b0 b1 b2 b3 b4 b5 b6 b7 b8 < m a0 a1 a2 a3 a4 a5 a6 a7 a8 → R b0 b1 b2 b3 b4 b5 b6 b7 b8) → j_Snk_putBlock_154 post R a0 a1 a2 a3 a4 a5 a6 a7 a8) :
    ∀ (a0 : Nat) (a1 : Nat) (a2 : Int32) (a3 : Int32) (a4 : Int64) (a5 : Int32) (a6 : Nat) (a7 : Nat) (a8 : St), I a0 a1 a2 a3 a4 a5 a6 a7 a8 → ∃ n : Nat, wl_Snk_putBlock_154 post n a0 a1 a2 a3 a4 a5 a6 a7 a8 := by
  have key : ∀ (n : Nat) (a0 : Nat) (a1 : Nat) (a2 : Int32) (a3 : Int32) (a4 : Int64) (a5 : Int32) (a6 : Nat) (a7 : Nat) (a8 : St), I a0 a1 a2 a3 a4 a5 a6 a7 a8 → m a0 a1 a2 a3 a4 a5 a6 a7 a8 < n → wl_Snk_putBlock_154 post n a0 a1 a2 a3 a4 a5 a6 a7 a8 := by
    intro n
    induction n with
    | zero => intro a0 a1 a2 a3 a4 a5 a6 a7 a8 _ h; exact absurd h (Nat.not_lt_zero _)
    | succ n ih => intro a0 a1 a2 a3 a4 a5 a6 a7 a8 h hm; exact step (wl_Snk_putBlock_154 post n) a0 a1 a2 a3 a4 a5 a6 a7 a8 h (fun b0 b1 b2 b3 b4 b5 b6 b7 b8 hb hlt => ih b0 b1 b2 b3 b4 b5 b6 b7 b8 hb (Nat.lt_of_lt_of_le hlt (Nat.le_of_lt_succ hm)))
  exact fun a0 a1 a2 a3 a4 a5 a6 a7 a8 h => ⟨_, key _ a0 a1 a2 a3 a4 a5 a6 a7 a8 h (Nat.lt_succ_self _)⟩
theorem lp_Snk_putBlock_90 {post : St → Prop} {rec56 : Nat → Nat → Int32 → Int32 → Int64 → Int32 → Nat → Nat → St → Prop} (I : Nat → Nat → Int32 → Int32 → Int64 → Int32 → Int64 → Int32 → Int32 → Nat → Nat → St → Prop) (m : Nat → Nat → Int32 → Int32 → Int64 → Int32 → Int64 → Int32 → Int32 → Nat → Nat → St → Nat)
    (step : ∀ (R : Nat → Nat → Int32 → Int32 → Int64 → Int32 → Int64 → Int32 → Int32 → Nat → Nat → St → Prop) (a0 : Nat) (a1 : Nat) (a2 : Int32) (a3 : Int32) (a4 : Int64) (a5 : Int32) (a6 : Int64) (a7 : Int32) (a8 : Int32) (a9 : Nat) (a10 : Nat) (a11 : St), I a0 a1 a2 a3 a4 a5 a6 a7 a8 a9 a10 a11 → (∀ (b0 : Nat) (b1 : Nat) (b2 : Int32) (b3 : Int32) (b4 : Int64) (b5 : Int32) (b6 : Int64) (b7 : Int32) (b8 : Int32) (b9 : Nat) (b10 : Nat) (b11 : St), I b0 b1 b2 b3 b4 b5 b6 b7 b8 b9 b10 b11 → m b0 b1 b2 b3 b4 b5 b6 b7 b8 b9 b10 b11 < m a0 a1 a2 a3 a4 a5 a6 a7 a8 a9 a10 a11 → R b0 b1 b2 b3 b4 b5 b6 b7 b8 b9 b10 b11) → j_Snk_putBlock_90 post rec56 R a0 a1 a2 a3 a4 a5 a6 a7 a8 a9 a10 a11) :
    ∀ (a0 : Nat) (a1 : Nat) (a2 : Int32) (a3 : Int32) (a4 : Int64) (a5 : Int32) (a6 : Int64) (a7 : Int32) (a8 : Int32) (a9 : Nat) (a10 : Nat) (a11 : St), I a0 a1 a2 a3 a4 a5 a6 a7 a8 a9 a10 a11 → ∃ n : Nat, wl_Snk_putBlock_90 post rec56 n a0 a1 a2 a3 a4 a5 a6 a7 a8 a9 a10 a11 := by
  have key : ∀ (n : Nat) (a0 : Nat) (a1 : Nat) (a2 : Int32) (a3 : Int32) (a4 : Int64) (a5 : Int32) (a6 : Int64) (a7 : Int32) (a8 : Int32) (a9 : Nat) (a10 : Nat) (a11 : St), I a0 a1 a2 a3 a4 a5 a6 a7 a8 a9 a10 a11 → m a0 a1 a2 a3 a4 a5 a6 a7 a8 a9 a10 a11 < n → wl_Snk_putBlock_90 post rec56 n a0 a1 a2 a3 a4 a5 a6 a7 a8 a9 a10 a11 := by
    intro n
    induction n with
    | zero => intro a0 a1 a2 a3 a4 a5 a6 a7 a8 a9 a10 a11 _ h; exact absurd h (Nat.not_lt_zero _)
    | succ n ih => intro a0 a1 a2 a3 a4 a5 a6 a7 a8 a9 a10 a11 h hm; exact step (wl_Snk_putBlock_90 post rec56 n) a0 a1 a2 a3 a4 a5 a6 a7 a8 a9 a10 a11 h (fun b0 b1 b2 b3 b4 b5 b6 b7 b8 b9 b10 b11 hb hlt => ih b0 b1 b2 b3 b4 b5 b6 b7 b8 b9 b10 b11 hb (Nat.lt_of_lt_of_le hlt (Nat.le_of_lt_succ hm)))
  exact fun a0 a1 a2 a3 a4 a5 a6 a7 a8 a9 a10 a11 h => ⟨_, key _ a0 a1 a2 a3 a4 a5 a6 a7 a8 a9 a10 a11 h (Nat.lt_succ_self _)⟩
theorem lp_Snk_putBlock_56 {post : St → Prop} (I : Nat → Nat → Int32 → Int32 → Int64 → Int32 → Nat → Nat → St → Prop) (m : Nat → Nat → Int32 → Int32 → Int64 → Int32 → Nat → Nat → St → Nat)
    (step : ∀ (R : Nat → Nat → Int32 → Int32 → Int64 → Int32 → Nat → Nat → St → Prop) (a0 : Nat) (a1 : Nat) (a2 : Int32) (a3 : Int32) (a4 : Int64) (a5 : Int32) (a6 : Nat) (a7 : Nat) (a8 : St), I a0 a1 a2 a3 a4 a5 a6 a7 a8 → (∀ (b0 : Nat) (b1 : Nat) (b2 : Int32) (b3 : Int32) (b4 : Int64) (b5 : Int32) (b6 : Nat) (b7 : Nat) (b8 : St), I b0 b1 b2 b3 b4 b5 b6 b7 b8 → m b0 b1 b2 b3 b4 b5 b6 b7 b8 < m a0 a1 a2 a3 a4 a5 a6 a7 a8 → R b0 b1 b2 b3 b4 b5 b6 b7 b8) → j_Snk_putBlock_56 post R a0 a1 a2 a3 a4 a5 a6 a7 a8) :
    ∀ (a0 : Nat) (a1 : Nat) (a2 : Int32) (a3 : Int32) (a4 : Int64) (a5 : Int32) (a6 : Nat) (a7 : Nat) (a8 : St), I a0 a1 a2 a3 a4 a5 a6 a7 a8 → ∃ n : Nat, wl_Snk_putBlock_56 post n a0 a1 a2 a3 a4 a5 a6 a7 a8 := by
  have key : ∀ (n : Nat) (a0 : Nat) (a1 : Nat) (a2 : Int32) (a3 : Int32) (a4 : Int64) (a5 : Int32) (a6 : Nat) (a7 : Nat) (a8 : St), I a0 a1 a2 a3 a4 a5 a6 a7 a8 → m a0 a1 a2 a3 a4 a5 a6 a7 a8 < n → wl_Snk_putBlock_56 post n a0 a1 a2 a3 a4 a5 a6 a7 a8 := by
    intro n
    induction n with
    | zero => intro a0 a1 a2 a3 a4 a5 a6 a7 a8 _ h; exact absurd h (Nat.not_lt_zero _)
    | succ n ih => intro a0 a1 a2 a3 a4 a5 a6 a7 a8 h hm; exact step (wl_Snk_putBlock_56 post n) a0 a1 a2 a3 a4 a5 a6 a7 a8 h (fun b0 b1 b2 b3 b4 b5 b6 b7 b8 hb hlt => ih b0 b1 b2 b3 b4 b5 b6 b7 b8 hb (Nat.lt_of_lt_of_le hlt (Nat.le_of_lt_succ hm)))
  exact fun a0 a1 a2 a3 a4 a5 a6 a7 a8 h => ⟨_, key _ a0 a1 a2 a3 a4 a5 a6 a7 a8 h (Nat.lt_succ_self _)⟩
theorem lp_Snk_putBlock_14 {post : St → Prop} (I : Nat → Nat → Int32 → Int32 → Int64 → Int32 → Nat → Nat → St → Prop) (m : Nat → Nat → Int32 → Int32 → Int64 → Int32 → Nat → Nat → St → Nat)
    (step : ∀ (R : Nat → Nat → Int32 → Int32 → Int64 → Int32 → Nat → Nat → St → Prop) (a0 : Nat) (a1 : Nat) (a2 : Int32) (a3 : Int32) (a4 : Int64) (a5 : Int32) (a6 : Nat) (a7 : Nat) (a8 : St), I a0 a1 a2 a3 a4 a5 a6 a7 a8 → (∀ (b0 : Nat) (b1 : Nat) (b2 : Int32) (b3 : Int32) (b4 : Int64) (b5 : Int32) (b6 : Nat) (b7 : Nat) (b8 : St), I b0 b1 b2 b3 b4 b5 b6 b7 b8 → m b0 b1 b2 b3 b4 b5 b6 b7 b8 < m a0 a1 a2 a3 a4 a5 a6 a7 a8 → R b0 b1 b2 b3 b4 b5 b6 b7 b8) → j_Snk_putBlock_14 post R a0 a1 a2 a3 a4 a5 a6 a7 a8) :
    ∀ (a0 : Nat) (a1 : Nat) (a2 : Int32) (a3 : Int32) (a4 : Int64) (a5 : Int32) (a6 : Nat) (a7 : Nat) (a8 : St), I a0 a1 a2 a3 a4 a5 a6 a7 a8 → ∃ n : Nat, wl_Snk_putBlock_14 post n a0 a1 a2 a3 a4 a5 a6 a7 a8 := by
  have key : ∀ (n : Nat) (a0 : Nat) (a1 : Nat) (a2 : Int32) (a3 : Int32) (a4 : Int64) (a5 : Int32) (a6 : Nat) (a7 : Nat) (a8 : St), I a0 a1 a2 a3 a4 a5 a6 a7 a8 → m a0 a1 a2 a3 a4 a5 a6 a7 a8 < n → wl_Snk_putBlock_14 post n a0 a1 a2 a3 a4 a5 a6 a7 a8 := by
    intro n
    induction n with
    | zero => intro a0 a1 a2 a3 a4 a5 a6 a7 a8 _ h; exact absurd h (Nat.not_lt_zero _)
    | succ n ih => intro a0 a1 a2 a3 a4 a5 a6 a7 a8 h hm; exact step (wl_Snk_putBlock_14 post n) a0 a1 a2 a3 a4 a5 a6 a7 a8 h (fun b0 b1 b2 b3 b4 b5 b6 b7 b8 hb hlt => ih b0 b1 b2 b3 b4 b5 b6 b7 b8 hb (Nat.lt_of_lt_of_le hlt (Nat.le_of_lt_succ hm)))
  exact fun a0 a1 a2 a3 a4 a5 a6 a7 a8 h => ⟨_, key _ a0 a1 a2 a3 a4 a5 a6 a7 a8 h (Nat.lt_succ_self _)⟩
theorem lp_Snk_putCode_22 {post : St → Prop} (I : Nat → Nat → Int32 → Int32 → Nat → Nat → St → Prop) (m : Nat → Nat → Int32 → Int32 → Nat → Nat → St → Nat)
    (step : ∀ (R : Nat → Nat → Int32 → Int32 → Nat → Nat → St → Prop) (a0 : Nat) (a1 : Nat) (a2 : Int32) (a3 : Int32) (a4 : Nat) (a5 : Nat) (a6 : St), I a0 a1 a2 a3 a4 a5 a6 → (∀ (b0 : Nat) (b1 : Nat) (b2 : Int32) (b3 : Int32) (b4 : Nat) (b5 : Nat) (b6 : St), I b0 b1 b2 b3 b4 b5 b6 → m b0 b1 b2 b3 b4 b5 b6 < m a0 a1 a2 a3 a4 a5 a6 → R b0 b1 b2 b3 b4 b5 b6) → j_Snk_putCode_22 post R a0 a1 a2 a3 a4 a5 a6) :
    ∀ (a0 : Nat) (a1 : Nat) (a2 : Int32) (a3 : Int32) (a4 : Nat) (a5 : Nat) (a6 : St), I a0 a1 a2 a3 a4 a5 a6 → ∃ n : Nat, wl_Snk_putCode_22 post n a0 a1 a2 a3 a4 a5 a6 := by
  have key : ∀ (n : Nat) (a0 : Nat) (a1 : Nat) (a2 : Int32) (a3 : Int32) (a4 : Nat) (a5 : Nat) (a6 : St), I a0 a1 a2 a3 a4 a5 a6 → m a0 a1 a2 a3 a4 a5 a6 < n → wl_Snk_putCode_22 post n a0 a1 a2 a3 a4 a5 a6 := by
    intro n
    induction n with
    | zero => intro a0 a1 a2 a3 a4 a5 a6 _ h; exact absurd h (Nat.not_lt_zero _)
    | succ n ih => intro a0 a1 a2 a3 a4 a5 a6 h hm; exact step (wl_Snk_putCode_22 post n) a0 a1 a2 a3 a4 a5 a6 h (fun b0 b1 b2 b3 b4 b5 b6 hb hlt => ih b0 b1 b2 b3 b4 b5 b6 hb (Nat.lt_of_lt_of_le hlt (Nat.le_of_lt_succ hm)))
  exact fun a0 a1 a2 a3 a4 a5 a6 h => ⟨_, key _ a0 a1 a2 a3 a4 a5 a6 h (Nat.lt_succ_self _)⟩
theorem lp_Wrt_putTexts_169 {post : St → Prop} (I : Nat → Int32 → Nat → Int32 → Int32 → Nat → Nat → St → Prop) (m : Nat → Int32 → Nat → Int32 → Int32 → Nat → Nat → St → Nat)
    (step : ∀ (R : Nat → Int32 → Nat → Int32 → Int32 → Nat → Nat → St → Prop) (a0 : Nat) (a1 : Int32) (a2 : Nat) (a3 : Int32) (a4 : Int32) (a5 : Nat) (a6 : Nat) (a7 : St), I a0 a1 a2 a3 a4 a5 a6 a7 → (∀ (b0 : Nat) (b1 : Int32) (b2 : Nat) (b3 : Int32) (b4 : Int32) (b5 : Nat) (b6 : Nat) (b7 : St), I b0 b1 b2 b3 b4 b5 b6 b7 → m b0 b1 b2 b3 b4 b5 b6 b7 < m a0 a1 a2 a3 a4 a5 a6 a7 → R b0 b1 b2 b3 b4 b5 b6 b7) → j_Wrt_putTexts_169 post R a0 a1 a2 a3 a4 a5 a6 a7) :
    ∀ (a0 : Nat) (a1 : Int32) (a2 : Nat) (a3 : Int32) (a4 : Int32) (a5 : Nat) (a6 : Nat) (a7 : St), I a0 a1 a2 a3 a4 a5 a6 a7 → ∃ n : Nat, wl_Wrt_putTexts_169 post n a0 a1 a2 a3 a4 a5 a6 a7 := by
  have key : ∀ (n : Nat) (a0 : Nat) (a1 : Int32) (a2 : Nat) (a3 : Int32) (a4 : Int32) (a5 : Nat) (a6 : Nat) (a7 : St), I a0 a1 a2 a3 a4 a5 a6 a7 → m a0 a1 a2 a3 a4 a5 a6 a7 < n → wl_Wrt_putTexts_169 post n a0 a1 a2 a3 a4 a5 a6 a7 := by
    intro n
    induction n with
    | zero => intro a0 a1 a2 a3 a4 a5 a6 a7 _ h; exact absurd h (Nat.not_lt_zero _)
    | succ n ih => intro a0 a1 a2 a3 a4 a5 a6 a7 h hm; exact step (wl_Wrt_putTexts_169 post n) a0 a1 a2 a3 a4 a5 a6 a7 h (fun b0 b1 b2 b3 b4 b5 b6 b7 hb hlt => ih b0 b1 b2 b3 b4 b5 b6 b7 hb (Nat.lt_of_lt_of_le hlt (Nat.le_of_lt_succ hm)))
  exact fun a0 a1 a2 a3 a4 a5 a6 a7 h => ⟨_, key _ a0 a1 a2 a3 a4 a5 a6 a7 h (Nat.lt_succ_self _)⟩
theorem lp_Wrt_putTexts_90 {post : St → Prop} (I : Nat → Int32 → Nat → Int32 → Nat → Nat → St → Prop) (m : Nat → Int32 → Nat → Int32 → Nat → Nat → St → Nat)
    (step : ∀ (R : Nat → Int32 → Nat → Int32 → Nat → Nat → St → Prop) (a0 : Nat) (a1 : Int32) (a2 : Nat) (a3 : Int32) (a4 : Nat) (a5 : Nat) (a6 : St), I a0 a1 a2 a3 a4 a5 a6 → (∀ (b0 : Nat) (b1 : Int32) (b2 : Nat) (b3 : Int32) (b4 : Nat) (b5 : Nat) (b6 : St), I b0 b1 b2 b3 b4 b5 b6 → m b0 b1 b2 b3 b4 b5 b6 < m a0 a1 a2 a3 a4 a5 a6 → R b0 b1 b2 b3 b4 b5 b6) → j_Wrt_putTexts_90 post R a0 a1 a2 a3 a4 a5 a6) :
    ∀ (a0 : Nat) (a1 : Int32) (a2 : Nat) (a3 : Int32) (a4 : Nat) (a5 : Nat) (a6 : St), I a0 a1 a2 a3 a4 a5 a6 → ∃ n : Nat, wl_Wrt_putTexts_90 post n a0 a1 a2 a3 a4 a5 a6 := by
  have key : ∀ (n : Nat) (a0 : Nat) (a1 : Int32) (a2 : Nat) (a3 : Int32) (a4 : Nat) (a5 : Nat) (a6 : St), I a0 a1 a2 a3 a4 a5 a6 → m a0 a1 a2 a3 a4 a5 a6 < n → wl_Wrt_putTexts_90 post n a0 a1 a2 a3 a4 a5 a6 := by
    intro n
    induction n with
    | zero => intro a0 a1 a2 a3 a4 a5 a6 _ h; exact absurd h (Nat.not_lt_zero _)
    | succ n ih => intro a0 a1 a2 a3 a4 a5 a6 h hm; exact step (wl_Wrt_putTexts_90 post n) a0 a1 a2 a3 a4 a5 a6 h (fun b0 b1 b2 b3 b4 b5 b6 hb hlt => ih b0 b1 b2 b3 b4 b5 b6 hb (Nat.lt_of_lt_of_le hlt (Nat.le_of_lt_succ hm)))
  exact fun a0 a1 a2 a3 a4 a5 a6 h => ⟨_, key _ a0 a1 a2 a3 a4 a5 a6 h (Nat.lt_succ_self _)⟩
theorem lp_Wrt_putTexts_10 {post : St → Prop} (I : Nat → Int32 → Nat → Int32 → Nat → Nat → St → Prop) (m : Nat → Int32 → Nat → Int32 → Nat → Nat → St → Nat)
    (step : ∀ (R : Nat → Int32 → Nat → Int32 → Nat → Nat → St → Prop) (a0 : Nat) (a1 : Int32) (a2 : Nat) (a3 : Int32) (a4 : Nat) (a5 : Nat) (a6 : St), I a0 a1 a2 a3 a4 a5 a6 → (∀ (b0 : Nat) (b1 : Int32) (b2 : Nat) (b3 : Int32) (b4 : Nat) (b5 : Nat) (b6 : St), I b0 b1 b2 b3 b4 b5 b6 → m b0 b1 b2 b3 b4 b5 b6 < m a0 a1 a2 a3 a4 a5 a6 → R b0 b1 b2 b3 b4 b5 b6) → j_Wrt_putTexts_10 post R a0 a1 a2 a3 a4 a5 a6) :
    ∀ (a0 : Nat) (a1 : Int32) (a2 : Nat) (a3 : Int32) (a4 : Nat) (a5 : Nat) (a6 : St), I a0 a1 a2 a3 a4 a5 a6 → ∃ n : Nat, wl_Wrt_putTexts_10 post n a0 a1 a2 a3 a4 a5 a6 := by
  have key : ∀ (n : Nat) (a0 : Nat) (a1 : Int32) (a2 : Nat) (a3 : Int32) (a4 : Nat) (a5 : Nat) (a6 : St), I a0 a1 a2 a3 a4 a5 a6 → m a0 a1 a2 a3 a4 a5 a6 < n → wl_Wrt_putTexts_10 post n a0 a1 a2 a3 a4 a5 a6 := by
    intro n
    induction n with
    | zero => intro a0 a1 a2 a3 a4 a5 a6 _ h; exact absurd h (Nat.not_lt_zero _)
    | succ n ih => intro a0 a1 a2 a3 a4 a5 a6 h hm; exact step (wl_Wrt_putTexts_10 post n) a0 a1 a2 a3 a4 a5 a6 h (fun b0 b1 b2 b3 b4 b5 b6 hb hlt => ih b0 b1 b2 b3 b4 b5 b6 hb (Nat.lt_of_lt_of_le hlt (Nat.le_of_lt_succ hm)))
  exact fun a0 a1 a2 a3 a4 a5 a6 h => ⟨_, key _ a0 a1 a2 a3 a4 a5 a6 h (Nat.lt_succ_self _)⟩
theorem lp_Wrt_chooseCoding_24 {post : Int32 → St → Prop} (I : Nat → Int32 → Int32 → Int32 → Int32 → Nat → Nat → St → Prop) (m : Nat → Int32 → Int32 → Int32 → Int32 → Nat → Nat → St → Nat)
    (step : ∀ (R : Nat → Int32 → Int32 → Int32 → Int32 → Nat → Nat → St → Prop) (a0 : Nat) (a1 : Int32) (a2 : Int32) (a3 : Int32) (a4 : Int32) (a5 : Nat) (a6 : Nat) (a7 : St), I a0 a1 a2 a3 a4 a5 a6 a7 → (∀ (b0 : Nat) (b1 : Int32) (b2 : Int32) (b3 : Int32) (b4 : Int32) (b5 : Nat) (b6 : Nat) (b7 : St), I b0 b1 b2 b3 b4 b5 b6 b7 → m b0 b1 b2 b3 b4 b5 b6 b7 < m a0 a1 a2 a3 a4 a5 a6 a7 → R b0 b1 b2 b3 b4 b5 b6 b7) → j_Wrt_chooseCoding_24 post R a0 a1 a2 a3 a4 a5 a6 a7) :
    ∀ (a0 : Nat) (a1 : Int32) (a2 : Int32) (a3 : Int32) (a4 : Int32) (a5 : Nat) (a6 : Nat) (a7 : St), I a0 a1 a2 a3 a4 a5 a6 a7 → ∃ n : Nat, wl_Wrt_chooseCoding_24 post n a0 a1 a2 a3 a4 a5 a6 a7 := by
  have key : ∀ (n : Nat) (a0 : Nat) (a1 : Int32) (a2 : Int32) (a3 : Int32) (a4 : Int32) (a5 : Nat) (a6 : Nat) (a7 : St), I a0 a1 a2 a3 a4 a5 a6 a7 → m a0 a1 a2 a3 a4 a5 a6 a7 < n → wl_Wrt_chooseCoding_24 post n a0 a1 a2 a3 a4 a5 a6 a7 := by
    intro n
    induction n with
    | zero => intro a0 a1 a2 a3 a4 a5 a6 a7 _ h; exact absurd h (Nat.not_lt_zero _)
    | succ n ih => intro a0 a1 a2 a3 a4 a5 a6 a7 h hm; exact step (wl_Wrt_chooseCoding_24 post n) a0 a1 a2 a3 a4 a5 a6 a7 h (fun b0 b1 b2 b3 b4 b5 b6 b7 hb hlt => ih b0 b1 b2 b3 b4 b5 b6 b7 hb (Nat.lt_of_lt_of_le hlt (Nat.le_of_lt_succ hm)))
  exact fun a0 a1 a2 a3 a4 a5 a6 a7 h => ⟨_, key _ a0 a1 a2 a3 a4 a5 a6 a7 h (Nat.lt_succ_self _)⟩
theorem lp_Wrt_putChunk_49 {post : Int32 → St → Prop} (I : Nat → Int32 → Int32 → Int32 → Int32 → Int32 → Int32 → Int32 → Int32 → Int64 → Int64 → Int32 → Int32 → Nat → Nat → St → Prop) (m : Nat → Int32 → Int32 → Int32 → Int32 → Int32 → Int32 → Int32 → Int32 → Int64 → Int64 → Int32 → Int32 → Nat → Nat → St → Nat)
    (step : ∀ (R : Nat → Int32 → Int32 → Int32 → Int32 → Int32 → Int32 → Int32 → Int32 → Int64 → Int64 → Int32 → Int32 → Nat → Nat → St → Prop) (a0 : Nat) (a1 : Int32) (a2 : Int32) (a3 : Int32) (a4 : Int32) (a5 : Int32) (a6 : Int32) (a7 : Int32) (a8 : Int32) (a9 : Int64) (a10 : Int64) (a11 : Int32) (a12 : Int32) (a13 : Nat) (a14 : Nat) (a15 : St), I a0 a1 a2 a3 a4 a5 a6 a7 a8 a9 a10 a11 a12 a13 a14 a15 → (∀ (b0 : Nat) (b1 : Int32) (b2 : Int32) (b3 : Int32) (b4 : Int32) (b5 : Int32) (b6 : Int32) (b7 : Int32) (b8 : Int32) (b9 : Int64) (b10 : Int64) (b11 : Int32) (b12 : Int32) (b13 : Nat) (b14 : Nat) (b15 : St), I b0 b1 b2 b3 b4 b5 b6 b7 b8 b9 b10 b11 b12 b13 b14 b15 → m b0 b1 b2 b3 b4 b5 b6 b7 b8 b9 b10 b11 b12 b13 b14 b15 < m a0 a1 a2 a3 a4 a5 a6 a7 a8 a9 a10 a11 a12 a13 a14 a15 → R b0 b1 b2 b3 b4 b5 b6 b7 b8 b9 b10 b11 b12 b13 b14 b15) → j_Wrt_putChunk_49 post R a0 a1 a2 a3 a4 a5 a6 a7 a8 a9 a10 a11 a12 a13 a14 a15) :
    ∀ (a0 : Nat) (a1 : Int32) (a2 : Int32) (a3 : Int32) (a4 : Int32) (a5 : Int32) (a6 : Int32) (a7 : Int32) (a8 : Int32) (a9 : Int64) (a10 : Int64) (a11 : Int32) (a12 : Int32) (a13 : Nat) (a14 : Nat) (a15 : St), I a0 a1 a2 a3 a4 a5 a6 a7 a8 a9 a10 a11 a12 a13 a14 a15 → ∃ n : Nat, wl_Wrt_putChunk_49 post n a0 a1 a2 a3 a4 a5 a6 a7 a8 a9 a10 a11 a12 a13 a14 a15 := by
  have key : ∀ (n : Nat) (a0 : Nat) (a1 : Int32) (a2 : Int32) (a3 : Int32) (a4 : Int32) (a5 : Int32) (a6 : Int32) (a7 : Int32) (a8 : Int32) (a9 : Int64) (a10 : Int64) (a11 : Int32) (a12 : Int32) (a13 : Nat) (a14 : Nat) (a15 : St), I a0 a1 a2 a3 a4 a5 a6 a7 a8 a9 a10 a11 a12 a13 a14 a15 → m a0 a1 a2 a3 a4 a5 a6 a7 a8 a9 a10 a11 a12 a13 a14 a15 < n → wl_Wrt_putChunk_49 post n a0 a1 a2 a3 a4 a5 a6 a7 a8 a9 a10 a11 a12 a13 a14 a15 := by
    intro n
    induction n with
    | zero => intro a0 a1 a2 a3 a4 a5 a6 a7 a8 a9 a10 a11 a12 a13 a14 a15 _ h; exact absurd h (Nat.not_lt_zero _)
    | succ n ih => intro a0 a1 a2 a3 a4 a5 a6 a7 a8 a9 a10 a11 a12 a13 a14 a15 h hm; exact step (wl_Wrt_putChunk_49 post n) a0 a1 a2 a3 a4 a5 a6 a7 a8 a9 a10 a11 a12 a13 a14 a15 h (fun b0 b1 b2 b3 b4 b5 b6 b7 b8 b9 b10 b11 b12 b13 b14 b15 hb hlt => ih b0 b1 b2 b3 b4 b5 b6 b7 b8 b9 b10 b11 b12 b13 b14 b15 hb (Nat.lt_of_lt_of_le hlt (Nat.le_of_lt_succ hm)))
  exact fun a0 a1 a2 a3 a4 a5 a6 a7 a8 a9 a10 a11 a12 a13 a14 a15 h => ⟨_, key _ a0 a1 a2 a3 a4 a5 a6 a7 a8 a9 a10 a11 a12 a13 a14 a15 h (Nat.lt_succ_self _)⟩
theorem lp_V_write_114 {post : Int32 → St → Prop} {rec83 : Nat → Int32 → Int32 → Int32 → Int32 → Int32 → Nat → Nat → St → Prop} (I : Nat → Int32 → Int32 → Int32 → Int32 → Int32 → Int32 → Int32 → Nat → Nat → St → Prop) (m : Nat → Int32 → Int32 → Int32 → Int32 → Int32 → Int32 → Int32 → Nat → Nat → St → Nat)
    (step : ∀ (R : Nat → Int32 → Int32 → Int32 → Int32 → Int32 → Int32 → Int32 → Nat → Nat → St → Prop) (a0 : Nat) (a1 : Int32) (a2 : Int32) (a3 : Int32) (a4 : Int32) (a5 : Int32) (a6 : Int32) (a7 : Int32) (a8 : Nat) (a9 : Nat) (a10 : St), I a0 a1 a2 a3 a4 a5 a6 a7 a8 a9 a10 → (∀ (b0 : Nat) (b1 : Int32) (b2 : Int32) (b3 : Int32) (b4 : Int32) (b5 : Int32) (b6 : Int32) (b7 : Int32) (b8 : Nat) (b9 : Nat) (b10 : St), I b0 b1 b2 b3 b4 b5 b6 b7 b8 b9 b10 → m b0 b1 b2 b3 b4 b5 b6 b7 b8 b9 b10 < m a0 a1 a2 a3 a4 a5 a6 a7 a8 a9 a10 → R b0 b1 b2 b3 b4 b5 b6 b7 b8 b9 b10) → j_V_write_114 post rec83 R a0 a1 a2 a3 a4 a5 a6 a7 a8 a9 a10) :
    ∀ (a0 : Nat) (a1 : Int32) (a2 : Int32) (a3 : Int32) (a4 : Int32) (a5 : Int32) (a6 : Int32) (a7 : Int32) (a8 : Nat) (a9 : Nat) (a10 : St), I a0 a1 a2 a3 a4 a5 a6 a7 a8 a9 a10 → ∃ n : Nat, wl_V_write_114 post rec83 n a0 a1 a2 a3 a4 a5 a6 a7 a8 a9 a10 := by
  have key : ∀ (n : Nat) (a0 : Nat) (a1 : Int32) (a2 : Int32) (a3 : Int32) (a4 : Int32) (a5 : Int32) (a6 : Int32) (a7 : Int32) (a8 : Nat) (a9 : Nat) (a10 : St), I a0 a1 a2 a3 a4 a5 a6 a7 a8 a9 a10 → m a0 a1 a2 a3 a4 a5 a6 a7 a8 a9 a10 < n → wl_V_write_114 post rec83 n a0 a1 a2 a3 a4 a5 a6 a7 a8 a9 a10 := by
    intro n
    induction n with
    | zero => intro a0 a1 a2 a3 a4 a5 a6 a7 a8 a9 a10 _ h; exact absurd h (Nat.not_lt_zero _)
    | succ n ih => intro a0 a1 a2 a3 a4 a5 a6 a7 a8 a9 a10 h hm; exact step (wl_V_write_114 post rec83 n) a0 a1 a2 a3 a4 a5 a6 a7 a8 a9 a10 h (fun b0 b1 b2 b3 b4 b5 b6 b7 b8 b9 b10 hb hlt => ih b0 b1 b2 b3 b4 b5 b6 b7 b8 b9 b10 hb (Nat.lt_of_lt_of_le hlt (Nat.le_of_lt_succ hm)))
  exact fun a0 a1 a2 a3 a4 a5 a6 a7 a8 a9 a10 h => ⟨_, key _ a0 a1 a2 a3 a4 a5 a6 a7 a8 a9 a10 h (Nat.lt_succ_self _)⟩
theorem lp_V_write_83 {post : Int32 → St → Prop} (I : Nat → Int32 → Int32 → Int32 → Int32 → Int32 → Nat → Nat → St → Prop) (m : Nat → Int32 → Int32 → Int32 → Int32 → Int32 → Nat → Nat → St → Nat)
    (step : ∀ (R : Nat → Int32 → Int32 → Int32 → Int32 → Int32 → Nat → Nat → St → Prop) (a0 : Nat) (a1 : Int32) (a2 : Int32) (a3 : Int32) (a4 : Int32) (a5 : Int32) (a6 : Nat) (a7 : Nat) (a8 : St), I a0 a1 a2 a3 a4 a5 a6 a7 a8 → (∀ (b0 : Nat) (b1 : Int32) (b2 : Int32) (b3 : Int32) (b4 : Int32) (b5 : Int32) (b6 : Nat) (b7 : Nat) (b8 : St), I b0 b1 b2 b3 b4 b5 b6 b7 b8 → m b0 b1 b2 b3 b4 b5 b6 b7 b8 < m a0 a1 a2 a3 a4 a5 a6 a7 a8 → R b0 b1 b2 b3 b4 b5 b6 b7 b8) → j_V_write_83 post R a0 a1 a2 a3 a4 a5 a6 a7 a8) :
    ∀ (a0 : Nat) (a1 : Int32) (a2 : Int32) (a3 : Int32) (a4 : Int32) (a5 : Int32) (a6 : Nat) (a7 : Nat) (a8 : St), I a0 a1 a2 a3 a4 a5 a6 a7 a8 → ∃ n : Nat, wl_V_write_83 post n a0 a1 a2 a3 a4 a5 a6 a7 a8 := by
  have key : ∀ (n : Nat) (a0 : Nat) (a1 : Int32) (a2 : Int32) (a3 : Int32) (a4 : Int32) (a5 : Int32) (a6 : Nat) (a7 : Nat) (a8 : St), I a0 a1 a2 a3 a4 a5 a6 a7 a8 → m a0 a1 a2 a3 a4 a5 a6 a7 a8 < n → wl_V_write_83 post n a0 a1 a2 a3 a4 a5 a6 a7 a8 := by
    intro n
    induction n with
    | zero => intro a0 a1 a2 a3 a4 a5 a6 a7 a8 _ h; exact absurd h (Nat.not_lt_zero _)
    | succ n ih => intro a0 a1 a2 a3 a4 a5 a6 a7 a8 h hm; exact step (wl_V_write_83 post n) a0 a1 a2 a3 a4 a5 a6 a7 a8 h (fun b0 b1 b2 b3 b4 b5 b6 b7 b8 hb hlt => ih b0 b1 b2 b3 b4 b5 b6 b7 b8 hb (Nat.lt_of_lt_of_le hlt (Nat.le_of_lt_succ hm)))
  exact fun a0 a1 a2 a3 a4 a5 a6 a7 a8 h => ⟨_, key _ a0 a1 a2 a3 a4 a5 a6 a7 a8 h (Nat.lt_succ_self _)⟩
theorem lp_Asm_writeWord_2 {post : St → Prop} (I : Nat → Nat → Int32 → Nat → Nat → St → Prop) (m : Nat → Nat → Int32 → Nat → Nat → St → Nat)
    (step : ∀ (R : Nat → Nat → Int32 → Nat → Nat → St → Prop) (a0 : Nat) (a1 : Nat) (a2 : Int32) (a3 : Nat) (a4 : Nat) (a5 : St), I a0 a1 a2 a3 a4 a5 → (∀ (b0 : Nat) (b1 : Nat) (b2 : Int32) (b3 : Nat) (b4 : Nat) (b5 : St), I b0 b1 b2 b3 b4 b5 → m b0 b1 b2 b3 b4 b5 < m a0 a1 a2 a3 a4 a5 → R b0 b1 b2 b3 b4 b5) → j_Asm_writeWord_2 post R a0 a1 a2 a3 a4 a5) :
    ∀ (a0 : Nat) (a1 : Nat) (a2 : Int32) (a3 : Nat) (a4 : Nat) (a5 : St), I a0 a1 a2 a3 a4 a5 → ∃ n : Nat, wl_Asm_writeWord_2 post n a0 a1 a2 a3 a4 a5 := by
  have key : ∀ (n : Nat) (a0 : Nat) (a1 : Nat) (a2 : Int32) (a3 : Nat) (a4 : Nat) (a5 : St), I a0 a1 a2 a3 a4 a5 → m a0 a1 a2 a3 a4 a5 < n → wl_Asm_writeWord_2 post n a0 a1 a2 a3 a4 a5 := by
    intro n
    induction n with
    | zero => intro a0 a1 a2 a3 a4 a5 _ h; exact absurd h (Nat.not_lt_zero _)
    | succ n ih => intro a0 a1 a2 a3 a4 a5 h hm; exact step (wl_Asm_writeWord_2 post n) a0 a1 a2 a3 a4 a5 h (fun b0 b1 b2 b3 b4 b5 hb hlt => ih b0 b1 b2 b3 b4 b5 hb (Nat.lt_of_lt_of_le hlt (Nat.le_of_lt_succ hm)))
  exact fun a0 a1 a2 a3 a4 a5 h => ⟨_, key _ a0 a1 a2 a3 a4 a5 h (Nat.lt_succ_self _)⟩
theorem lp_Asm_writeText_25 {post : St → Prop} (I : Nat → Int64 → Int32 → Int32 → Int32 → Nat → Nat → St → Prop) (m : Nat → Int64 → Int32 → Int32 → Int32 → Nat → Nat → St → Nat)
    (step : ∀ (R : Nat → Int64 → Int32 → Int32 → Int32 → Nat → Nat → St → Prop) (a0 : Nat) (a1 : Int64) (a2 : Int32) (a3 : Int32) (a4 : Int32) (a5 : Nat) (a6 : Nat) (a7 : St), I a0 a1 a2 a3 a4 a5 a6 a7 → (∀ (b0 : Nat) (b1 : Int64) (b2 : Int32) (b3 : Int32) (b4 : Int32) (b5 : Nat) (b6 : Nat) (b7 : St), I b0 b1 b2 b3 b4 b5 b6 b7 → m b0 b1 b2 b3 b4 b5 b6 b7 < m a0 a1 a2 a3 a4 a5 a6 a7 → R b0 b1 b2 b3 b4 b5 b6 b7) → j_Asm_writeText_25 post R a0 a1 a2 a3 a4 a5 a6 a7) :
    ∀ (a0 : Nat) (a1 : Int64) (a2 : Int32) (a3 : Int32) (a4 : Int32) (a5 : Nat) (a6 : Nat) (a7 : St), I a0 a1 a2 a3 a4 a5 a6 a7 → ∃ n : Nat, wl_Asm_writeText_25 post n a0 a1 a2 a3 a4 a5 a6 a7 := by
  have key : ∀ (n : Nat) (a0 : Nat) (a1 : Int64) (a2 : Int32) (a3 : Int32) (a4 : Int32) (a5 : Nat) (a6 : Nat) (a7 : St), I a0 a1 a2 a3 a4 a5 a6 a7 → m a0 a1 a2 a3 a4 a5 a6 a7 < n → wl_Asm_writeText_25 post n a0 a1 a2 a3 a4 a5 a6 a7 := by
    intro n
    induction n with
    | zero => intro a0 a1 a2 a3 a4 a5 a6 a7 _ h; exact absurd h (Nat.not_lt_zero _)
    | succ n ih => intro a0 a1 a2 a3 a4 a5 a6 a7 h hm; exact step (wl_Asm_writeText_25 post n) a0 a1 a2 a3 a4 a5 a6 a7 h (fun b0 b1 b2 b3 b4 b5 b6 b7 hb hlt => ih b0 b1 b2 b3 b4 b5 b6 b7 hb (Nat.lt_of_lt_of_le hlt (Nat.le_of_lt_succ hm)))
  exact fun a0 a1 a2 a3 a4 a5 a6 a7 h => ⟨_, key _ a0 a1 a2 a3 a4 a5 a6 a7 h (Nat.lt_succ_self _)⟩
theorem lp_Snk_putDecimal_84 {post : St → Prop} (I : Nat → Int64 → Int32 → Int64 → Int32 → Int32 → Nat → Nat → St → Prop) (m : Nat → Int64 → Int32 → Int64 → Int32 → Int32 → Nat → Nat → St → Nat)
    (step : ∀ (R : Nat → Int64 → Int32 → Int64 → Int32 → Int32 → Nat → Nat → St → Prop) (a0 : Nat) (a1 : Int64) (a2 : Int32) (a3 : Int64) (a4 : Int32) (a5 : Int32) (a6 : Nat) (a7 : Nat) (a8 : St), I a0 a1 a2 a3 a4 a5 a6 a7 a8 → (∀ (b0 : Nat) (b1 : Int64) (b2 : Int32) (b3 : Int64) (b4 : Int32) (b5 : Int32) (b6 : Nat) (b7 : Nat) (b8 : St), I b0 b1 b2 b3 b4 b5 b6 b7 b8 → m b0 b1 b2 b3 b4 b5 b6 b7 b8 < m a0 a1 a2 a3 a4 a5 a6 a7 a8 → R b0 b1 b2 b3 b4 b5 b6 b7 b8) → j_Snk_putDecimal_84 post R a0 a1 a2 a3 a4 a5 a6 a7 a8) :
    ∀ (a0 : Nat) (a1 : Int64) (a2 : Int32) (a3 : Int64) (a4 : Int32) (a5 : Int32) (a6 : Nat) (a7 : Nat) (a8 : St), I a0 a1 a2 a3 a4 a5 a6 a7 a8 → ∃ n : Nat, wl_Snk_putDecimal_84 post n a0 a1 a2 a3 a4 a5 a6 a7 a8 := by
  have key : ∀ (n : Nat) (a0 : Nat) (a1 : Int64) (a2 : Int32) (a3 : Int64) (a4 : Int32) (a5 : Int32) (a6 : Nat) (a7 : Nat) (a8 : St), I a0 a1 a2 a3 a4 a5 a6 a7 a8 → m a0 a1 a2 a3 a4 a5 a6 a7 a8 < n → wl_Snk_putDecimal_84 post n a0 a1 a2 a3 a4 a5 a6 a7 a8 := by
    intro n
    induction n with
    | zero => intro a0 a1 a2 a3 a4 a5 a6 a7 a8 _ h; exact absurd h (Nat.not_lt_zero _)
    | succ n ih => intro a0 a1 a2 a3 a4 a5 a6 a7 a8 h hm; exact step (wl_Snk_putDecimal_84 post n) a0 a1 a2 a3 a4 a5 a6 a7 a8 h (fun b0 b1 b2 b3 b4 b5 b6 b7 b8 hb hlt => ih b0 b1 b2 b3 b4 b5 b6 b7 b8 hb (Nat.lt_of_lt_of_le hlt (Nat.le_of_lt_succ hm)))
  exact fun a0 a1 a2 a3 a4 a5 a6 a7 a8 h => ⟨_, key _ a0 a1 a2 a3 a4 a5 a6 a7 a8 h (Nat.lt_succ_self _)⟩
theorem lp_Snk_putDecimal_11 {post : St → Prop} (I : Nat → Int64 → Int32 → Int64 → Int32 → Nat → Nat → St → Prop) (m : Nat → Int64 → Int32 → Int64 → Int32 → Nat → Nat → St → Nat)
    (step : ∀ (R : Nat → Int64 → Int32 → Int64 → Int32 → Nat → Nat → St → Prop) (a0 : Nat) (a1 : Int64) (a2 : Int32) (a3 : Int64) (a4 : Int32) (a5 : Nat) (a6 : Nat) (a7 : St), I a0 a1 a2 a3 a4 a5 a6 a7 → (∀ (b0 : Nat) (b1 : Int64) (b2 : Int32) (b3 : Int64) (b4 : Int32) (b5 : Nat) (b6 : Nat) (b7 : St), I b0 b1 b2 b3 b4 b5 b6 b7 → m b0 b1 b2 b3 b4 b5 b6 b7 < m a0 a1 a2 a3 a4 a5 a6 a7 → R b0 b1 b2 b3 b4 b5 b6 b7) → j_Snk_putDecimal_11 post R a0 a1 a2 a3 a4 a5 a6 a7) :
    ∀ (a0 : Nat) (a1 : Int64) (a2 : Int32) (a3 : Int64) (a4 : Int32) (a5 : Nat) (a6 : Nat) (a7 : St), I a0 a1 a2 a3 a4 a5 a6 a7 → ∃ n : Nat, wl_Snk_putDecimal_11 post n a0 a1 a2 a3 a4 a5 a6 a7 := by
  have key : ∀ (n : Nat) (a0 : Nat) (a1 : Int64) (a2 : Int32) (a3 : Int64) (a4 : Int32) (a5 : Nat) (a6 : Nat) (a7 : St), I a0 a1 a2 a3 a4 a5 a6 a7 → m a0 a1 a2 a3 a4 a5 a6 a7 < n → wl_Snk_putDecimal_11 post n a0 a1 a2 a3 a4 a5 a6 a7 := by
    intro n
    induction n with
    | zero => intro a0 a1 a2 a3 a4 a5 a6 a7 _ h; exact absurd h (Nat.not_lt_zero _)
    | succ n ih => intro a0 a1 a2 a3 a4 a5 a6 a7 h hm; exact step (wl_Snk_putDecimal_11 post n) a0 a1 a2 a3 a4 a5 a6 a7 h (fun b0 b1 b2 b3 b4 b5 b6 b7 hb hlt => ih b0 b1 b2 b3 b4 b5 b6 b7 hb (Nat.lt_of_lt_of_le hlt (Nat.le_of_lt_succ hm)))
  exact fun a0 a1 a2 a3 a4 a5 a6 a7 h => ⟨_, key _ a0 a1 a2 a3 a4 a5 a6 a7 h (Nat.lt_succ_self _)⟩
theorem lp_Asm_writeAll_14 {post : St → Prop} {self_Asm_writeAll : (St → Prop) → Nat → Int32 → Int32 → Nat → Nat → St → Prop} {self_Asm_writeGroup : (St → Prop) → Nat → Int32 → Int32 → Nat → Nat → St → Prop} {self_Asm_writeOne : (St → Prop) → Nat → Int32 → Int32 → Nat → Nat → St → Prop} (I : Nat → Int32 → Int32 → Int32 → Int32 → Nat → Nat → St → Prop) (m : Nat → Int32 → Int32 → Int32 → Int32 → Nat → Nat → St → Nat)
    (step : ∀ (R : Nat → Int32 → Int32 → Int32 → Int32 → Nat → Nat → St → Prop) (a0 : Nat) (a1 : Int32) (a2 : Int32) (a3 : Int32) (a4 : Int32) (a5 : Nat) (a6 : Nat) (a7 : St), I a0 a1 a2 a3 a4 a5 a6 a7 → (∀ (b0 : Nat) (b1 : Int32) (b2 : Int32) (b3 : Int32) (b4 : Int32) (b5 : Nat) (b6 : Nat) (b7 : St), I b0 b1 b2 b3 b4 b5 b6 b7 → m b0 b1 b2 b3 b4 b5 b6 b7 < m a0 a1 a2 a3 a4 a5 a6 a7 → R b0 b1 b2 b3 b4 b5 b6 b7) → j_Asm_writeAll_14 post self_Asm_writeAll self_Asm_writeGroup self_Asm_writeOne R a0 a1 a2 a3 a4 a5 a6 a7) :
    ∀ (a0 : Nat) (a1 : Int32) (a2 : Int32) (a3 : Int32) (a4 : Int32) (a5 : Nat) (a6 : Nat) (a7 : St), I a0 a1 a2 a3 a4 a5 a6 a7 → ∃ n : Nat, wl_Asm_writeAll_14 post self_Asm_writeAll self_Asm_writeGroup self_Asm_writeOne n a0 a1 a2 a3 a4 a5 a6 a7 := by
  have key : ∀ (n : Nat) (a0 : Nat) (a1 : Int32) (a2 : Int32) (a3 : Int32) (a4 : Int32) (a5 : Nat) (a6 : Nat) (a7 : St), I a0 a1 a2 a3 a4 a5 a6 a7 → m a0 a1 a2 a3 a4 a5 a6 a7 < n → wl_Asm_writeAll_14 post self_Asm_writeAll self_Asm_writeGroup self_Asm_writeOne n a0 a1 a2 a3 a4 a5 a6 a7 := by
    intro n
    induction n with
    | zero => intro a0 a1 a2 a3 a4 a5 a6 a7 _ h; exact absurd h (Nat.not_lt_zero _)
    | succ n ih => intro a0 a1 a2 a3 a4 a5 a6 a7 h hm; exact step (wl_Asm_writeAll_14 post self_Asm_writeAll self_Asm_writeGroup self_Asm_writeOne n) a0 a1 a2 a3 a4 a5 a6 a7 h (fun b0 b1 b2 b3 b4 b5 b6 b7 hb hlt => ih b0 b1 b2 b3 b4 b5 b6 b7 hb (Nat.lt_of_lt_of_le hlt (Nat.le_of_lt_succ hm)))
  exact fun a0 a1 a2 a3 a4 a5 a6 a7 h => ⟨_, key _ a0 a1 a2 a3 a4 a5 a6 a7 h (Nat.lt_succ_self _)⟩
theorem lp_Asm_writeGroup_41 {post : St → Prop} {self_Asm_writeAll : (St → Prop) → Nat → Int32 → Int32 → Nat → Nat → St → Prop} {self_Asm_writeGroup : (St → Prop) → Nat → Int32 → Int32 → Nat → Nat → St → Prop} {self_Asm_writeOne : (St → Prop) → Nat → Int32 → Int32 → Nat → Nat → St → Prop} (I : Nat → Int32 → Int32 → Nat → Int32 → Int32 → Int32 → Nat → Nat → St → Prop) (m : Nat → Int32 → Int32 → Nat → Int32 → Int32 → Int32 → Nat → Nat → St → Nat)
    (step : ∀ (R : Nat → Int32 → Int32 → Nat → Int32 → Int32 → Int32 → Nat → Nat → St → Prop) (a0 : Nat) (a1 : Int32) (a2 : Int32) (a3 : Nat) (a4 : Int32) (a5 : Int32) (a6 : Int32) (a7 : Nat) (a8 : Nat) (a9 : St), I a0 a1 a2 a3 a4 a5 a6 a7 a8 a9 → (∀ (b0 : Nat) (b1 : Int32) (b2 : Int32) (b3 : Nat) (b4 : Int32) (b5 : Int32) (b6 : Int32) (b7 : Nat) (b8 : Nat) (b9 : St), I b0 b1 b2 b3 b4 b5 b6 b7 b8 b9 → m b0 b1 b2 b3 b4 b5 b6 b7 b8 b9 < m a0 a1 a2 a3 a4 a5 a6 a7 a8 a9 → R b0 b1 b2 b3 b4 b5 b6 b7 b8 b9) → j_Asm_writeGroup_41 post self_Asm_writeAll self_Asm_writeGroup self_Asm_writeOne R a0 a1 a2 a3 a4 a5 a6 a7 a8 a9) :
    ∀ (a0 : Nat) (a1 : Int32) (a2 : Int32) (a3 : Nat) (a4 : Int32) (a5 : Int32) (a6 : Int32) (a7 : Nat) (a8 : Nat) (a9 : St), I a0 a1 a2 a3 a4 a5 a6 a7 a8 a9 → ∃ n : Nat, wl_Asm_writeGroup_41 post self_Asm_writeAll self_Asm_writeGroup self_Asm_writeOne n a0 a1 a2 a3 a4 a5 a6 a7 a8 a9 := by
  have key : ∀ (n : Nat) (a0 : Nat) (a1 : Int32) (a2 : Int32) (a3 : Nat) (a4 : Int32) (a5 : Int32) (a6 : Int32) (a7 : Nat) (a8 : Nat) (a9 : St), I a0 a1 a2 a3 a4 a5 a6 a7 a8 a9 → m a0 a1 a2 a3 a4 a5 a6 a7 a8 a9 < n → wl_Asm_writeGroup_41 post self_Asm_writeAll self_Asm_writeGroup self_Asm_writeOne n a0 a1 a2 a3 a4 a5 a6 a7 a8 a9 := by
    intro n
    induction n with
    | zero => intro a0 a1 a2 a3 a4 a5 a6 a7 a8 a9 _ h; exact absurd h (Nat.not_lt_zero _)
    | succ n ih => intro a0 a1 a2 a3 a4 a5 a6 a7 a8 a9 h hm; exact step (wl_Asm_writeGroup_41 post self_Asm_writeAll self_Asm_writeGroup self_Asm_writeOne n) a0 a1 a2 a3 a4 a5 a6 a7 a8 a9 h (fun b0 b1 b2 b3 b4 b5 b6 b7 b8 b9 hb hlt => ih b0 b1 b2 b3 b4 b5 b6 b7 b8 b9 hb (Nat.lt_of_lt_of_le hlt (Nat.le_of_lt_succ hm)))
  exact fun a0 a1 a2 a3 a4 a5 a6 a7 a8 a9 h => ⟨_, key _ a0 a1 a2 a3 a4 a5 a6 a7 a8 a9 h (Nat.lt_succ_self _)⟩
theorem lp_Asm_assemble_111 {post : Int32 → St → Prop} {rec58 : Nat → Int32 → Nat → Nat → Int32 → Nat → Nat → St → Prop} (I : Nat → Int32 → Nat → Nat → Int32 → Int32 → Int32 → Int32 → Nat → Nat → St → Prop) (m : Nat → Int32 → Nat → Nat → Int32 → Int32 → Int32 → Int32 → Nat → Nat → St → Nat)
    (step : ∀ (R : Nat → Int32 → Nat → Nat → Int32 → Int32 → Int32 → Int32 → Nat → Nat → St → Prop) (a0 : Nat) (a1 : Int32) (a2 : Nat) (a3 : Nat) (a4 : Int32) (a5 : Int32) (a6 : Int32) (a7 : Int32) (a8 : Nat) (a9 : Nat) (a10 : St), I a0 a1 a2 a3 a4 a5 a6 a7 a8 a9 a10 → (∀ (b0 : Nat) (b1 : Int32) (b2 : Nat) (b3 : Nat) (b4 : Int32) (b5 : Int32) (b6 : Int32) (b7 : Int32) (b8 : Nat) (b9 : Nat) (b10 : St), I b0 b1 b2 b3 b4 b5 b6 b7 b8 b9 b10 → m b0 b1 b2 b3 b4 b5 b6 b7 b8 b9 b10 < m a0 a1 a2 a3 a4 a5 a6 a7 a8 a9 a10 → R b0 b1 b2 b3 b4 b5 b6 b7 b8 b9 b10) → j_Asm_assemble_111 post rec58 R a0 a1 a2 a3 a4 a5 a6 a7 a8 a9 a10) :
    ∀ (a0 : Nat) (a1 : Int32) (a2 : Nat) (a3 : Nat) (a4 : Int32) (a5 : Int32) (a6 : Int32) (a7 : Int32) (a8 : Nat) (a9 : Nat) (a10 : St), I a0 a1 a2 a3 a4 a5 a6 a7 a8 a9 a10 → ∃ n : Nat, wl_Asm_assemble_111 post rec58 n a0 a1 a2 a3 a4 a5 a6 a7 a8 a9 a10 := by
  have key : ∀ (n : Nat) (a0 : Nat) (a1 : Int32) (a2 : Nat) (a3 : Nat) (a4 : Int32) (a5 : Int32) (a6 : Int32) (a7 : Int32) (a8 : Nat) (a9 : Nat) (a10 : St), I a0 a1 a2 a3 a4 a5 a6 a7 a8 a9 a10 → m a0 a1 a2 a3 a4 a5 a6 a7 a8 a9 a10 < n → wl_Asm_assemble_111 post rec58 n a0 a1 a2 a3 a4 a5 a6 a7 a8 a9 a10 := by
    intro n
    induction n with
    | zero => intro a0 a1 a2 a3 a4 a5 a6 a7 a8 a9 a10 _ h; exact absurd h (Nat.not_lt_zero _)
    | succ n ih => intro a0 a1 a2 a3 a4 a5 a6 a7 a8 a9 a10 h hm; exact step (wl_Asm_assemble_111 post rec58 n) a0 a1 a2 a3 a4 a5 a6 a7 a8 a9 a10 h (fun b0 b1 b2 b3 b4 b5 b6 b7 b8 b9 b10 hb hlt => ih b0 b1 b2 b3 b4 b5 b6 b7 b8 b9 b10 hb (Nat.lt_of_lt_of_le hlt (Nat.le_of_lt_succ hm)))
  exact fun a0 a1 a2 a3 a4 a5 a6 a7 a8 a9 a10 h => ⟨_, key _ a0 a1 a2 a3 a4 a5 a6 a7 a8 a9 a10 h (Nat.lt_succ_self _)⟩
theorem lp_Asm_assemble_58 {post : Int32 → St → Prop} (I : Nat → Int32 → Nat → Nat → Int32 → Nat → Nat → St → Prop) (m : Nat → Int32 → Nat → Nat → Int32 → Nat → Nat → St → Nat)
    (step : ∀ (R : Nat → Int32 → Nat → Nat → Int32 → Nat → Nat → St → Prop) (a0 : Nat) (a1 : Int32) (a2 : Nat) (a3 : Nat) (a4 : Int32) (a5 : Nat) (a6 : Nat) (a7 : St), I a0 a1 a2 a3 a4 a5 a6 a7 → (∀ (b0 : Nat) (b1 : Int32) (b2 : Nat) (b3 : Nat) (b4 : Int32) (b5 : Nat) (b6 : Nat) (b7 : St), I b0 b1 b2 b3 b4 b5 b6 b7 → m b0 b1 b2 b3 b4 b5 b6 b7 < m a0 a1 a2 a3 a4 a5 a6 a7 → R b0 b1 b2 b3 b4 b5 b6 b7) → j_Asm_assemble_58 post R a0 a1 a2 a3 a4 a5 a6 a7) :
    ∀ (a0 : Nat) (a1 : Int32) (a2 : Nat) (a3 : Nat) (a4 : Int32) (a5 : Nat) (a6 : Nat) (a7 : St), I a0 a1 a2 a3 a4 a5 a6 a7 → ∃ n : Nat, wl_Asm_assemble_58 post n a0 a1 a2 a3 a4 a5 a6 a7 := by
  have key : ∀ (n : Nat) (a0 : Nat) (a1 : Int32) (a2 : Nat) (a3 : Nat) (a4 : Int32) (a5 : Nat) (a6 : Nat) (a7 : St), I a0 a1 a2 a3 a4 a5 a6 a7 → m a0 a1 a2 a3 a4 a5 a6 a7 < n → wl_Asm_assemble_58 post n a0 a1 a2 a3 a4 a5 a6 a7 := by
    intro n
    induction n with
    | zero => intro a0 a1 a2 a3 a4 a5 a6 a7 _ h; exact absurd h (Nat.not_lt_zero _)
    | succ n ih => intro a0 a1 a2 a3 a4 a5 a6 a7 h hm; exact step (wl_Asm_assemble_58 post n) a0 a1 a2 a3 a4 a5 a6 a7 h (fun b0 b1 b2 b3 b4 b5 b6 b7 hb hlt => ih b0 b1 b2 b3 b4 b5 b6 b7 hb (Nat.lt_of_lt_of_le hlt (Nat.le_of_lt_succ hm)))
  exact fun a0 a1 a2 a3 a4 a5 a6 a7 h => ⟨_, key _ a0 a1 a2 a3 a4 a5 a6 a7 h (Nat.lt_succ_self _)⟩
theorem lp_Asm_assembleN_111 {post : Int32 → St → Prop} {rec58 : Nat → Int32 → Nat → Int32 → Nat → Nat → St → Prop} (I : Nat → Int32 → Nat → Int32 → Int32 → Int32 → Int32 → Nat → Nat → St → Prop) (m : Nat → Int32 → Nat → Int32 → Int32 → Int32 → Int32 → Nat → Nat → St → Nat)
    (step : ∀ (R : Nat → Int32 → Nat → Int32 → Int32 → Int32 → Int32 → Nat → Nat → St → Prop) (a0 : Nat) (a1 : Int32) (a2 : Nat) (a3 : Int32) (a4 : Int32) (a5 : Int32) (a6 : Int32) (a7 : Nat) (a8 : Nat) (a9 : St), I a0 a1 a2 a3 a4 a5 a6 a7 a8 a9 → (∀ (b0 : Nat) (b1 : Int32) (b2 : Nat) (b3 : Int32) (b4 : Int32) (b5 : Int32) (b6 : Int32) (b7 : Nat) (b8 : Nat) (b9 : St), I b0 b1 b2 b3 b4 b5 b6 b7 b8 b9 → m b0 b1 b2 b3 b4 b5 b6 b7 b8 b9 < m a0 a1 a2 a3 a4 a5 a6 a7 a8 a9 → R b0 b1 b2 b3 b4 b5 b6 b7 b8 b9) → j_Asm_assembleN_111 post rec58 R a0 a1 a2 a3 a4 a5 a6 a7 a8 a9) :
    ∀ (a0 : Nat) (a1 : Int32) (a2 : Nat) (a3 : Int32) (a4 : Int32) (a5 : Int32) (a6 : Int32) (a7 : Nat) (a8 : Nat) (a9 : St), I a0 a1 a2 a3 a4 a5 a6 a7 a8 a9 → ∃ n : Nat, wl_Asm_assembleN_111 post rec58 n a0 a1 a2 a3 a4 a5 a6 a7 a8 a9 := by
  have key : ∀ (n : Nat) (a0 : Nat) (a1 : Int32) (a2 : Nat) (a3 : Int32) (a4 : Int32) (a5 : Int32) (a6 : Int32) (a7 : Nat) (a8 : Nat) (a9 : St), I a0 a1 a2 a3 a4 a5 a6 a7 a8 a9 → m a0 a1 a2 a3 a4 a5 a6 a7 a8 a9 < n → wl_Asm_assembleN_111 post rec58 n a0 a1 a2 a3 a4 a5 a6 a7 a8 a9 := by
    intro n
    induction n with
    | zero => intro a0 a1 a2 a3 a4 a5 a6 a7 a8 a9 _ h; exact absurd h (Nat.not_lt_zero _)
    | succ n ih => intro a0 a1 a2 a3 a4 a5 a6 a7 a8 a9 h hm; exact step (wl_Asm_assembleN_111 post rec58 n) a0 a1 a2 a3 a4 a5 a6 a7 a8 a9 h (fun b0 b1 b2 b3 b4 b5 b6 b7 b8 b9 hb hlt => ih b0 b1 b2 b3 b4 b5 b6 b7 b8 b9 hb (Nat.lt_of_lt_of_le hlt (Nat.le_of_lt_succ hm)))
  exact fun a0 a1 a2 a3 a4 a5 a6 a7 a8 a9 h => ⟨_, key _ a0 a1 a2 a3 a4 a5 a6 a7 a8 a9 h (Nat.lt_succ_self _)⟩
theorem lp_Asm_assembleN_58 {post : Int32 → St → Prop} (I : Nat → Int32 → Nat → Int32 → Nat → Nat → St → Prop) (m : Nat → Int32 → Nat → Int32 → Nat → Nat → St → Nat)
    (step : ∀ (R : Nat → Int32 → Nat → Int32 → Nat → Nat → St → Prop) (a0 : Nat) (a1 : Int32) (a2 : Nat) (a3 : Int32) (a4 : Nat) (a5 : Nat) (a6 : St), I a0 a1 a2 a3 a4 a5 a6 → (∀ (b0 : Nat) (b1 : Int32) (b2 : Nat) (b3 : Int32) (b4 : Nat) (b5 : Nat) (b6 : St), I b0 b1 b2 b3 b4 b5 b6 → m b0 b1 b2 b3 b4 b5 b6 < m a0 a1 a2 a3 a4 a5 a6 → R b0 b1 b2 b3 b4 b5 b6) → j_Asm_assembleN_58 post R a0 a1 a2 a3 a4 a5 a6) :
    ∀ (a0 : Nat) (a1 : Int32) (a2 : Nat) (a3 : Int32) (a4 : Nat) (a5 : Nat) (a6 : St), I a0 a1 a2 a3 a4 a5 a6 → ∃ n : Nat, wl_Asm_assembleN_58 post n a0 a1 a2 a3 a4 a5 a6 := by
  have key : ∀ (n : Nat) (a0 : Nat) (a1 : Int32) (a2 : Nat) (a3 : Int32) (a4 : Nat) (a5 : Nat) (a6 : St), I a0 a1 a2 a3 a4 a5 a6 → m a0 a1 a2 a3 a4 a5 a6 < n → wl_Asm_assembleN_58 post n a0 a1 a2 a3 a4 a5 a6 := by
    intro n
    induction n with
    | zero => intro a0 a1 a2 a3 a4 a5 a6 _ h; exact absurd h (Nat.not_lt_zero _)
    | succ n ih => intro a0 a1 a2 a3 a4 a5 a6 h hm; exact step (wl_Asm_assembleN_58 post n) a0 a1 a2 a3 a4 a5 a6 h (fun b0 b1 b2 b3 b4 b5 b6 hb hlt => ih b0 b1 b2 b3 b4 b5 b6 hb (Nat.lt_of_lt_of_le hlt (Nat.le_of_lt_succ hm)))
  exact fun a0 a1 a2 a3 a4 a5 a6 h => ⟨_, key _ a0 a1 a2 a3 a4 a5 a6 h (Nat.lt_succ_self _)⟩
