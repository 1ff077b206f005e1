theorem lp_Scn_next_0 {post : Int32 → St → Prop} (I : Nat → St → Prop) (m : Nat → St → Nat)
    (step : ∀ (R : Nat → St → Prop) (a0 : Nat) (a1 : St), I a0 a1 → (∀ (b0 : Nat) (b1 : St), I b0 b1 → m b0 b1 < m a0 a1 → R b0 b1) → j_Scn_next_0 post R a0 a1) :
    ∀ (a0 : Nat) (a1 : St), I a0 a1 → ∃ n : Nat, wl_Scn_next_0 post n a0 a1 := by
  have key : ∀ (n : Nat) (a0 : Nat) (a1 : St), I a0 a1 → m a0 a1 < n → wl_Scn_next_0 post n a0 a1 := by
    intro n
    induction n with
    | zero => intro a0 a1 _ h; exact absurd h (Nat.not_lt_zero _)
    | succ n ih => intro a0 a1 h hm; exact step (wl_Scn_next_0 post n) a0 a1 h (fun b0 b1 hb hlt => ih b0 b1 hb (Nat.lt_of_lt_of_le hlt (Nat.le_of_lt_succ hm)))
  exact fun a0 a1 h => ⟨_, key _ a0 a1 h (Nat.lt_succ_self _)⟩
theorem lp_Scn_takeAnyWord_20 {post : Int32 → St → Prop} (I : Nat → St → Prop) (m : Nat → St → Nat)
    (step : ∀ (R : Nat → St → Prop) (a0 : Nat) (a1 : St), I a0 a1 → (∀ (b0 : Nat) (b1 : St), I b0 b1 → m b0 b1 < m a0 a1 → R b0 b1) → j_Scn_takeAnyWord_20 post R a0 a1) :
    ∀ (a0 : Nat) (a1 : St), I a0 a1 → ∃ n : Nat, wl_Scn_takeAnyWord_20 post n a0 a1 := by
  have key : ∀ (n : Nat) (a0 : Nat) (a1 : St), I a0 a1 → m a0 a1 < n → wl_Scn_takeAnyWord_20 post n a0 a1 := by
    intro n
    induction n with
    | zero => intro a0 a1 _ h; exact absurd h (Nat.not_lt_zero _)
    | succ n ih => intro a0 a1 h hm; exact step (wl_Scn_takeAnyWord_20 post n) a0 a1 h (fun b0 b1 hb hlt => ih b0 b1 hb (Nat.lt_of_lt_of_le hlt (Nat.le_of_lt_succ hm)))
  exact fun a0 a1 h => ⟨_, key _ a0 a1 h (Nat.lt_succ_self _)⟩
theorem lp_Scn_isWord_15 {post : Int32 → St → Prop} (I : Nat → Nat → Int32 → St → Prop) (m : Nat → Nat → Int32 → St → Nat)
    (step : ∀ (R : Nat → Nat → Int32 → St → Prop) (a0 : Nat) (a1 : Nat) (a2 : Int32) (a3 : St), I a0 a1 a2 a3 → (∀ (b0 : Nat) (b1 : Nat) (b2 : Int32) (b3 : St), I b0 b1 b2 b3 → m b0 b1 b2 b3 < m a0 a1 a2 a3 → R b0 b1 b2 b3) → j_Scn_isWord_15 post R a0 a1 a2 a3) :
    ∀ (a0 : Nat) (a1 : Nat) (a2 : Int32) (a3 : St), I a0 a1 a2 a3 → ∃ n : Nat, wl_Scn_isWord_15 post n a0 a1 a2 a3 := by
  have key : ∀ (n : Nat) (a0 : Nat) (a1 : Nat) (a2 : Int32) (a3 : St), I a0 a1 a2 a3 → m a0 a1 a2 a3 < n → wl_Scn_isWord_15 post n a0 a1 a2 a3 := by
    intro n
    induction n with
    | zero => intro a0 a1 a2 a3 _ h; exact absurd h (Nat.not_lt_zero _)
    | succ n ih => intro a0 a1 a2 a3 h hm; exact step (wl_Scn_isWord_15 post n) a0 a1 a2 a3 h (fun b0 b1 b2 b3 hb hlt => ih b0 b1 b2 b3 hb (Nat.lt_of_lt_of_le hlt (Nat.le_of_lt_succ hm)))
  exact fun a0 a1 a2 a3 h => ⟨_, key _ a0 a1 a2 a3 h (Nat.lt_succ_self _)⟩
theorem lp_Sch_hasName_22 {post : Int32 → St → Prop} (I : Nat → Int32 → Nat → Int32 → Int32 → Int32 → Int32 → St → Prop) (m : Nat → Int32 → Nat → Int32 → Int32 → Int32 → Int32 → St → Nat)
    (step : ∀ (R : Nat → Int32 → Nat → Int32 → Int32 → Int32 → Int32 → St → Prop) (a0 : Nat) (a1 : Int32) (a2 : Nat) (a3 : Int32) (a4 : Int32) (a5 : Int32) (a6 : Int32) (a7 : St), I a0 a1 a2 a3 a4 a5 a6 a7 → (∀ (b0 : Nat) (b1 : Int32) (b2 : Nat) (b3 : Int32) (b4 : Int32) (b5 : Int32) (b6 : Int32) (b7 : St), I b0 b1 b2 b3 b4 b5 b6 b7 → m b0 b1 b2 b3 b4 b5 b6 b7 < m a0 a1 a2 a3 a4 a5 a6 a7 → R b0 b1 b2 b3 b4 b5 b6 b7) → j_Sch_hasName_22 post R a0 a1 a2 a3 a4 a5 a6 a7) :
    ∀ (a0 : Nat) (a1 : Int32) (a2 : Nat) (a3 : Int32) (a4 : Int32) (a5 : Int32) (a6 : Int32) (a7 : St), I a0 a1 a2 a3 a4 a5 a6 a7 → ∃ n : Nat, wl_Sch_hasName_22 post n a0 a1 a2 a3 a4 a5 a6 a7 := by
  have key : ∀ (n : Nat) (a0 : Nat) (a1 : Int32) (a2 : Nat) (a3 : Int32) (a4 : Int32) (a5 : Int32) (a6 : Int32) (a7 : St), I a0 a1 a2 a3 a4 a5 a6 a7 → m a0 a1 a2 a3 a4 a5 a6 a7 < n → wl_Sch_hasName_22 post n a0 a1 a2 a3 a4 a5 a6 a7 := by
    intro n
    induction n with
    | zero => intro a0 a1 a2 a3 a4 a5 a6 a7 _ h; exact absurd h (Nat.not_lt_zero _)
    | succ n ih => intro a0 a1 a2 a3 a4 a5 a6 a7 h hm; exact step (wl_Sch_hasName_22 post n) a0 a1 a2 a3 a4 a5 a6 a7 h (fun b0 b1 b2 b3 b4 b5 b6 b7 hb hlt => ih b0 b1 b2 b3 b4 b5 b6 b7 hb (Nat.lt_of_lt_of_le hlt (Nat.le_of_lt_succ hm)))
  exact fun a0 a1 a2 a3 a4 a5 a6 a7 h => ⟨_, key _ a0 a1 a2 a3 a4 a5 a6 a7 h (Nat.lt_succ_self _)⟩
theorem lp_Sch_find_14 {post : Int32 → St → Prop} (I : Nat → Int32 → Nat → Int32 → Int32 → Int32 → Int32 → St → Prop) (m : Nat → Int32 → Nat → Int32 → Int32 → Int32 → Int32 → St → Nat)
    (step : ∀ (R : Nat → Int32 → Nat → Int32 → Int32 → Int32 → Int32 → St → Prop) (a0 : Nat) (a1 : Int32) (a2 : Nat) (a3 : Int32) (a4 : Int32) (a5 : Int32) (a6 : Int32) (a7 : St), I a0 a1 a2 a3 a4 a5 a6 a7 → (∀ (b0 : Nat) (b1 : Int32) (b2 : Nat) (b3 : Int32) (b4 : Int32) (b5 : Int32) (b6 : Int32) (b7 : St), I b0 b1 b2 b3 b4 b5 b6 b7 → m b0 b1 b2 b3 b4 b5 b6 b7 < m a0 a1 a2 a3 a4 a5 a6 a7 → R b0 b1 b2 b3 b4 b5 b6 b7) → j_Sch_find_14 post R a0 a1 a2 a3 a4 a5 a6 a7) :
    ∀ (a0 : Nat) (a1 : Int32) (a2 : Nat) (a3 : Int32) (a4 : Int32) (a5 : Int32) (a6 : Int32) (a7 : St), I a0 a1 a2 a3 a4 a5 a6 a7 → ∃ n : Nat, wl_Sch_find_14 post n a0 a1 a2 a3 a4 a5 a6 a7 := by
  have key : ∀ (n : Nat) (a0 : Nat) (a1 : Int32) (a2 : Nat) (a3 : Int32) (a4 : Int32) (a5 : Int32) (a6 : Int32) (a7 : St), I a0 a1 a2 a3 a4 a5 a6 a7 → m a0 a1 a2 a3 a4 a5 a6 a7 < n → wl_Sch_find_14 post n a0 a1 a2 a3 a4 a5 a6 a7 := by
    intro n
    induction n with
    | zero => intro a0 a1 a2 a3 a4 a5 a6 a7 _ h; exact absurd h (Nat.not_lt_zero _)
    | succ n ih => intro a0 a1 a2 a3 a4 a5 a6 a7 h hm; exact step (wl_Sch_find_14 post n) a0 a1 a2 a3 a4 a5 a6 a7 h (fun b0 b1 b2 b3 b4 b5 b6 b7 hb hlt => ih b0 b1 b2 b3 b4 b5 b6 b7 hb (Nat.lt_of_lt_of_le hlt (Nat.le_of_lt_succ hm)))
  exact fun a0 a1 a2 a3 a4 a5 a6 a7 h => ⟨_, key _ a0 a1 a2 a3 a4 a5 a6 a7 h (Nat.lt_succ_self _)⟩
theorem lp_Sch_add_258 {post : Int32 → St → Prop} (I : Nat → Int32 → Int32 → Int32 → Nat → Int32 → Int32 → Int32 → Int32 → Int32 → Int32 → Int32 → St → Prop) (m : Nat → Int32 → Int32 → Int32 → Nat → Int32 → Int32 → Int32 → Int32 → Int32 → Int32 → Int32 → St → Nat)
    (step : ∀ (R : Nat → Int32 → Int32 → Int32 → Nat → Int32 → Int32 → Int32 → Int32 → Int32 → Int32 → Int32 → St → Prop) (a0 : Nat) (a1 : Int32) (a2 : Int32) (a3 : Int32) (a4 : Nat) (a5 : Int32) (a6 : Int32) (a7 : Int32) (a8 : Int32) (a9 : Int32) (a10 : Int32) (a11 : Int32) (a12 : St), I a0 a1 a2 a3 a4 a5 a6 a7 a8 a9 a10 a11 a12 → (∀ (b0 : Nat) (b1 : Int32) (b2 : Int32) (b3 : Int32) (b4 : Nat) (b5 : Int32) (b6 : Int32) (b7 : Int32) (b8 : Int32) (b9 : Int32) (b10 : Int32) (b11 : Int32) (b12 : St), I b0 b1 b2 b3 b4 b5 b6 b7 b8 b9 b10 b11 b12 → m b0 b1 b2 b3 b4 b5 b6 b7 b8 b9 b10 b11 b12 < m a0 a1 a2 a3 a4 a5 a6 a7 a8 a9 a10 a11 a12 → R b0 b1 b2 b3 b4 b5 b6 b7 b8 b9 b10 b11 b12) → j_Sch_add_258 post R a0 a1 a2 a3 a4 a5 a6 a7 a8 a9 a10 a11 a12) :
    ∀ (a0 : Nat) (a1 : Int32) (a2 : Int32) (a3 : Int32) (a4 : Nat) (a5 : Int32) (a6 : Int32) (a7 : Int32) (a8 : Int32) (a9 : Int32) (a10 : Int32) (a11 : Int32) (a12 : St), I a0 a1 a2 a3 a4 a5 a6 a7 a8 a9 a10 a11 a12 → ∃ n : Nat, wl_Sch_add_258 post n a0 a1 a2 a3 a4 a5 a6 a7 a8 a9 a10 a11 a12 := by
  have key : ∀ (n : Nat) (a0 : Nat) (a1 : Int32) (a2 : Int32) (a3 : Int32) (a4 : Nat) (a5 : Int32) (a6 : Int32) (a7 : Int32) (a8 : Int32) (a9 : Int32) (a10 : Int32) (a11 : Int32) (a12 : St), I a0 a1 a2 a3 a4 a5 a6 a7 a8 a9 a10 a11 a12 → m a0 a1 a2 a3 a4 a5 a6 a7 a8 a9 a10 a11 a12 < n → wl_Sch_add_258 post n a0 a1 a2 a3 a4 a5 a6 a7 a8 a9 a10 a11 a12 := by
    intro n
    induction n with
    | zero => intro a0 a1 a2 a3 a4 a5 a6 a7 a8 a9 a10 a11 a12 _ h; exact absurd h (Nat.not_lt_zero _)
    | succ n ih => intro a0 a1 a2 a3 a4 a5 a6 a7 a8 a9 a10 a11 a12 h hm; exact step (wl_Sch_add_258 post n) a0 a1 a2 a3 a4 a5 a6 a7 a8 a9 a10 a11 a12 h (fun b0 b1 b2 b3 b4 b5 b6 b7 b8 b9 b10 b11 b12 hb hlt => ih b0 b1 b2 b3 b4 b5 b6 b7 b8 b9 b10 b11 b12 hb (Nat.lt_of_lt_of_le hlt (Nat.le_of_lt_succ hm)))
  exact fun a0 a1 a2 a3 a4 a5 a6 a7 a8 a9 a10 a11 a12 h => ⟨_, key _ a0 a1 a2 a3 a4 a5 a6 a7 a8 a9 a10 a11 a12 h (Nat.lt_succ_self _)⟩
theorem lp_Sch_readText_8 {post : Int32 → St → Prop} (I : Nat → Nat → Int32 → Int32 → St → Prop) (m : Nat → Nat → Int32 → Int32 → St → Nat)
    (step : ∀ (R : Nat → Nat → Int32 → Int32 → St → Prop) (a0 : Nat) (a1 : Nat) (a2 : Int32) (a3 : Int32) (a4 : St), I a0 a1 a2 a3 a4 → (∀ (b0 : Nat) (b1 : Nat) (b2 : Int32) (b3 : Int32) (b4 : St), I b0 b1 b2 b3 b4 → m b0 b1 b2 b3 b4 < m a0 a1 a2 a3 a4 → R b0 b1 b2 b3 b4) → j_Sch_readText_8 post R a0 a1 a2 a3 a4) :
    ∀ (a0 : Nat) (a1 : Nat) (a2 : Int32) (a3 : Int32) (a4 : St), I a0 a1 a2 a3 a4 → ∃ n : Nat, wl_Sch_readText_8 post n a0 a1 a2 a3 a4 := by
  have key : ∀ (n : Nat) (a0 : Nat) (a1 : Nat) (a2 : Int32) (a3 : Int32) (a4 : St), I a0 a1 a2 a3 a4 → m a0 a1 a2 a3 a4 < n → wl_Sch_readText_8 post n a0 a1 a2 a3 a4 := by
    intro n
    induction n with
    | zero => intro a0 a1 a2 a3 a4 _ h; exact absurd h (Nat.not_lt_zero _)
    | succ n ih => intro a0 a1 a2 a3 a4 h hm; exact step (wl_Sch_readText_8 post n) a0 a1 a2 a3 a4 h (fun b0 b1 b2 b3 b4 hb hlt => ih b0 b1 b2 b3 b4 hb (Nat.lt_of_lt_of_le hlt (Nat.le_of_lt_succ hm)))
  exact fun a0 a1 a2 a3 a4 h => ⟨_, key _ a0 a1 a2 a3 a4 h (Nat.lt_succ_self _)⟩
theorem lp_JArr_fill_5 {post : St → Prop} (I : Nat → Int32 → Int32 → Int32 → St → Prop) (m : Nat → Int32 → Int32 → Int32 → St → Nat)
    (step : ∀ (R : Nat → Int32 → Int32 → Int32 → St → Prop) (a0 : Nat) (a1 : Int32) (a2 : Int32) (a3 : Int32) (a4 : St), I a0 a1 a2 a3 a4 → (∀ (b0 : Nat) (b1 : Int32) (b2 : Int32) (b3 : Int32) (b4 : St), I b0 b1 b2 b3 b4 → m b0 b1 b2 b3 b4 < m a0 a1 a2 a3 a4 → R b0 b1 b2 b3 b4) → j_JArr_fill_5 post R a0 a1 a2 a3 a4) :
    ∀ (a0 : Nat) (a1 : Int32) (a2 : Int32) (a3 : Int32) (a4 : St), I a0 a1 a2 a3 a4 → ∃ n : Nat, wl_JArr_fill_5 post n a0 a1 a2 a3 a4 := by
  have key : ∀ (n : Nat) (a0 : Nat) (a1 : Int32) (a2 : Int32) (a3 : Int32) (a4 : St), I a0 a1 a2 a3 a4 → m a0 a1 a2 a3 a4 < n → wl_JArr_fill_5 post n a0 a1 a2 a3 a4 := by
    intro n
    induction n with
    | zero => intro a0 a1 a2 a3 a4 _ h; exact absurd h (Nat.not_lt_zero _)
    | succ n ih => intro a0 a1 a2 a3 a4 h hm; exact step (wl_JArr_fill_5 post n) a0 a1 a2 a3 a4 h (fun b0 b1 b2 b3 b4 hb hlt => ih b0 b1 b2 b3 b4 hb (Nat.lt_of_lt_of_le hlt (Nat.le_of_lt_succ hm)))
  exact fun a0 a1 a2 a3 a4 h => ⟨_, key _ a0 a1 a2 a3 a4 h (Nat.lt_succ_self _)⟩
theorem lp_Rec_readName_32 {post : Int32 → St → Prop} (I : Nat → Int32 → Int32 → Int32 → Int32 → Int32 → St → Prop) (m : Nat → Int32 → Int32 → Int32 → Int32 → Int32 → St → Nat)
    (step : ∀ (R : Nat → Int32 → Int32 → Int32 → Int32 → Int32 → St → Prop) (a0 : Nat) (a1 : Int32) (a2 : Int32) (a3 : Int32) (a4 : Int32) (a5 : Int32) (a6 : St), I a0 a1 a2 a3 a4 a5 a6 → (∀ (b0 : Nat) (b1 : Int32) (b2 : Int32) (b3 : Int32) (b4 : Int32) (b5 : Int32) (b6 : St), I b0 b1 b2 b3 b4 b5 b6 → m b0 b1 b2 b3 b4 b5 b6 < m a0 a1 a2 a3 a4 a5 a6 → R b0 b1 b2 b3 b4 b5 b6) → j_Rec_readName_32 post R a0 a1 a2 a3 a4 a5 a6) :
    ∀ (a0 : Nat) (a1 : Int32) (a2 : Int32) (a3 : Int32) (a4 : Int32) (a5 : Int32) (a6 : St), I a0 a1 a2 a3 a4 a5 a6 → ∃ n : Nat, wl_Rec_readName_32 post n a0 a1 a2 a3 a4 a5 a6 := by
  have key : ∀ (n : Nat) (a0 : Nat) (a1 : Int32) (a2 : Int32) (a3 : Int32) (a4 : Int32) (a5 : Int32) (a6 : St), I a0 a1 a2 a3 a4 a5 a6 → m a0 a1 a2 a3 a4 a5 a6 < n → wl_Rec_readName_32 post n a0 a1 a2 a3 a4 a5 a6 := by
    intro n
    induction n with
    | zero => intro a0 a1 a2 a3 a4 a5 a6 _ h; exact absurd h (Nat.not_lt_zero _)
    | succ n ih => intro a0 a1 a2 a3 a4 a5 a6 h hm; exact step (wl_Rec_readName_32 post n) a0 a1 a2 a3 a4 a5 a6 h (fun b0 b1 b2 b3 b4 b5 b6 hb hlt => ih b0 b1 b2 b3 b4 b5 b6 hb (Nat.lt_of_lt_of_le hlt (Nat.le_of_lt_succ hm)))
  exact fun a0 a1 a2 a3 a4 a5 a6 h => ⟨_, key _ a0 a1 a2 a3 a4 a5 a6 h (Nat.lt_succ_self _)⟩
theorem lp_Rec_enterMissing_20 {post : St → Prop} (I : Nat → Int32 → Int32 → Int32 → Int32 → Int32 → Int32 → St → Prop) (m : Nat → Int32 → Int32 → Int32 → Int32 → Int32 → Int32 → St → Nat)
    (step : ∀ (R : Nat → Int32 → Int32 → Int32 → Int32 → Int32 → Int32 → St → Prop) (a0 : Nat) (a1 : Int32) (a2 : Int32) (a3 : Int32) (a4 : Int32) (a5 : Int32) (a6 : Int32) (a7 : St), I a0 a1 a2 a3 a4 a5 a6 a7 → (∀ (b0 : Nat) (b1 : Int32) (b2 : Int32) (b3 : Int32) (b4 : Int32) (b5 : Int32) (b6 : Int32) (b7 : St), I b0 b1 b2 b3 b4 b5 b6 b7 → m b0 b1 b2 b3 b4 b5 b6 b7 < m a0 a1 a2 a3 a4 a5 a6 a7 → R b0 b1 b2 b3 b4 b5 b6 b7) → j_Rec_enterMissing_20 post R a0 a1 a2 a3 a4 a5 a6 a7) :
    ∀ (a0 : Nat) (a1 : Int32) (a2 : Int32) (a3 : Int32) (a4 : Int32) (a5 : Int32) (a6 : Int32) (a7 : St), I a0 a1 a2 a3 a4 a5 a6 a7 → ∃ n : Nat, wl_Rec_enterMissing_20 post n a0 a1 a2 a3 a4 a5 a6 a7 := by
  have key : ∀ (n : Nat) (a0 : Nat) (a1 : Int32) (a2 : Int32) (a3 : Int32) (a4 : Int32) (a5 : Int32) (a6 : Int32) (a7 : St), I a0 a1 a2 a3 a4 a5 a6 a7 → m a0 a1 a2 a3 a4 a5 a6 a7 < n → wl_Rec_enterMissing_20 post n a0 a1 a2 a3 a4 a5 a6 a7 := by
    intro n
    induction n with
    | zero => intro a0 a1 a2 a3 a4 a5 a6 a7 _ h; exact absurd h (Nat.not_lt_zero _)
    | succ n ih => intro a0 a1 a2 a3 a4 a5 a6 a7 h hm; exact step (wl_Rec_enterMissing_20 post n) a0 a1 a2 a3 a4 a5 a6 a7 h (fun b0 b1 b2 b3 b4 b5 b6 b7 hb hlt => ih b0 b1 b2 b3 b4 b5 b6 b7 hb (Nat.lt_of_lt_of_le hlt (Nat.le_of_lt_succ hm)))
  exact fun a0 a1 a2 a3 a4 a5 a6 a7 h => ⟨_, key _ a0 a1 a2 a3 a4 a5 a6 a7 h (Nat.lt_succ_self _)⟩
theorem lp_Rec_someRequired_3 {post : Int32 → St → Prop} (I : Nat → Int32 → Int32 → Int32 → Int32 → St → Prop) (m : Nat → Int32 → Int32 → Int32 → Int32 → St → Nat)
    (step : ∀ (R : Nat → Int32 → Int32 → Int32 → Int32 → St → Prop) (a0 : Nat) (a1 : Int32) (a2 : Int32) (a3 : Int32) (a4 : Int32) (a5 : St), I a0 a1 a2 a3 a4 a5 → (∀ (b0 : Nat) (b1 : Int32) (b2 : Int32) (b3 : Int32) (b4 : Int32) (b5 : St), I b0 b1 b2 b3 b4 b5 → m b0 b1 b2 b3 b4 b5 < m a0 a1 a2 a3 a4 a5 → R b0 b1 b2 b3 b4 b5) → j_Rec_someRequired_3 post R a0 a1 a2 a3 a4 a5) :
    ∀ (a0 : Nat) (a1 : Int32) (a2 : Int32) (a3 : Int32) (a4 : Int32) (a5 : St), I a0 a1 a2 a3 a4 a5 → ∃ n : Nat, wl_Rec_someRequired_3 post n a0 a1 a2 a3 a4 a5 := by
  have key : ∀ (n : Nat) (a0 : Nat) (a1 : Int32) (a2 : Int32) (a3 : Int32) (a4 : Int32) (a5 : St), I a0 a1 a2 a3 a4 a5 → m a0 a1 a2 a3 a4 a5 < n → wl_Rec_someRequired_3 post n a0 a1 a2 a3 a4 a5 := by
    intro n
    induction n with
    | zero => intro a0 a1 a2 a3 a4 a5 _ h; exact absurd h (Nat.not_lt_zero _)
    | succ n ih => intro a0 a1 a2 a3 a4 a5 h hm; exact step (wl_Rec_someRequired_3 post n) a0 a1 a2 a3 a4 a5 h (fun b0 b1 b2 b3 b4 b5 hb hlt => ih b0 b1 b2 b3 b4 b5 hb (Nat.lt_of_lt_of_le hlt (Nat.le_of_lt_succ hm)))
  exact fun a0 a1 a2 a3 a4 a5 h => ⟨_, key _ a0 a1 a2 a3 a4 a5 h (Nat.lt_succ_self _)⟩
theorem lp_Scn_readQuoted_17 {post : St → Prop} (I : Nat → Nat → Int32 → Int32 → St → Prop) (m : Nat → Nat → Int32 → Int32 → St → Nat)
    (step : ∀ (R : Nat → Nat → Int32 → Int32 → St → Prop) (a0 : Nat) (a1 : Nat) (a2 : Int32) (a3 : Int32) (a4 : St), I a0 a1 a2 a3 a4 → (∀ (b0 : Nat) (b1 : Nat) (b2 : Int32) (b3 : Int32) (b4 : St), I b0 b1 b2 b3 b4 → m b0 b1 b2 b3 b4 < m a0 a1 a2 a3 a4 → R b0 b1 b2 b3 b4) → j_Scn_readQuoted_17 post R a0 a1 a2 a3 a4) :
    ∀ (a0 : Nat) (a1 : Nat) (a2 : Int32) (a3 : Int32) (a4 : St), I a0 a1 a2 a3 a4 → ∃ n : Nat, wl_Scn_readQuoted_17 post n a0 a1 a2 a3 a4 := by
  have key : ∀ (n : Nat) (a0 : Nat) (a1 : Nat) (a2 : Int32) (a3 : Int32) (a4 : St), I a0 a1 a2 a3 a4 → m a0 a1 a2 a3 a4 < n → wl_Scn_readQuoted_17 post n a0 a1 a2 a3 a4 := by
    intro n
    induction n with
    | zero => intro a0 a1 a2 a3 a4 _ h; exact absurd h (Nat.not_lt_zero _)
    | succ n ih => intro a0 a1 a2 a3 a4 h hm; exact step (wl_Scn_readQuoted_17 post n) a0 a1 a2 a3 a4 h (fun b0 b1 b2 b3 b4 hb hlt => ih b0 b1 b2 b3 b4 hb (Nat.lt_of_lt_of_le hlt (Nat.le_of_lt_succ hm)))
  exact fun a0 a1 a2 a3 a4 h => ⟨_, key _ a0 a1 a2 a3 a4 h (Nat.lt_succ_self _)⟩
theorem lp_Scn_readDigits_7 {post : Int32 → St → Prop} (I : Nat → Int32 → St → Prop) (m : Nat → Int32 → St → Nat)
    (step : ∀ (R : Nat → Int32 → St → Prop) (a0 : Nat) (a1 : Int32) (a2 : St), I a0 a1 a2 → (∀ (b0 : Nat) (b1 : Int32) (b2 : St), I b0 b1 b2 → m b0 b1 b2 < m a0 a1 a2 → R b0 b1 b2) → j_Scn_readDigits_7 post R a0 a1 a2) :
    ∀ (a0 : Nat) (a1 : Int32) (a2 : St), I a0 a1 a2 → ∃ n : Nat, wl_Scn_readDigits_7 post n a0 a1 a2 := by
  have key : ∀ (n : Nat) (a0 : Nat) (a1 : Int32) (a2 : St), I a0 a1 a2 → m a0 a1 a2 < n → wl_Scn_readDigits_7 post n a0 a1 a2 := by
    intro n
    induction n with
    | zero => intro a0 a1 a2 _ h; exact absurd h (Nat.not_lt_zero _)
    | succ n ih => intro a0 a1 a2 h hm; exact step (wl_Scn_readDigits_7 post n) a0 a1 a2 h (fun b0 b1 b2 hb hlt => ih b0 b1 b2 hb (Nat.lt_of_lt_of_le hlt (Nat.le_of_lt_succ hm)))
  exact fun a0 a1 a2 h => ⟨_, key _ a0 a1 a2 h (Nat.lt_succ_self _)⟩
theorem lp_Rec_readGroup_81 {post : St → Prop} {self_Rec_readGroup : (St → Prop) → Nat → Int32 → Int32 → Int32 → St → Prop} {self_Rec_readOne : (St → Prop) → Nat → Int32 → Int32 → Int32 → St → Prop} {self_Rec_readValues : (St → Prop) → Nat → Int32 → Int32 → Int32 → St → Prop} (I : Nat → Int32 → Int32 → Int32 → Int32 → Int32 → Int32 → Int32 → St → Prop) (m : Nat → Int32 → Int32 → Int32 → Int32 → Int32 → Int32 → Int32 → St → Nat)
    (step : ∀ (R : Nat → Int32 → Int32 → Int32 → Int32 → Int32 → Int32 → Int32 → St → Prop) (a0 : Nat) (a1 : Int32) (a2 : Int32) (a3 : Int32) (a4 : Int32) (a5 : Int32) (a6 : Int32) (a7 : Int32) (a8 : St), I a0 a1 a2 a3 a4 a5 a6 a7 a8 → (∀ (b0 : Nat) (b1 : Int32) (b2 : Int32) (b3 : Int32) (b4 : Int32) (b5 : Int32) (b6 : Int32) (b7 : Int32) (b8 : St), I b0 b1 b2 b3 b4 b5 b6 b7 b8 → m b0 b1 b2 b3 b4 b5 b6 b7 b8 < m a0 a1 a2 a3 a4 a5 a6 a7 a8 → R b0 b1 b2 b3 b4 b5 b6 b7 b8) → j_Rec_readGroup_81 post self_Rec_readGroup self_Rec_readOne self_Rec_readValues R a0 a1 a2 a3 a4 a5 a6 a7 a8) :
    ∀ (a0 : Nat) (a1 : Int32) (a2 : Int32) (a3 : Int32) (a4 : Int32) (a5 : Int32) (a6 : Int32) (a7 : Int32) (a8 : St), I a0 a1 a2 a3 a4 a5 a6 a7 a8 → ∃ n : Nat, wl_Rec_readGroup_81 post self_Rec_readGroup self_Rec_readOne self_Rec_readValues n a0 a1 a2 a3 a4 a5 a6 a7 a8 := by
  have key : ∀ (n : Nat) (a0 : Nat) (a1 : Int32) (a2 : Int32) (a3 : Int32) (a4 : Int32) (a5 : Int32) (a6 : Int32) (a7 : Int32) (a8 : St), I a0 a1 a2 a3 a4 a5 a6 a7 a8 → m a0 a1 a2 a3 a4 a5 a6 a7 a8 < n → wl_Rec_readGroup_81 post self_Rec_readGroup self_Rec_readOne self_Rec_readValues n a0 a1 a2 a3 a4 a5 a6 a7 a8 := by
    intro n
    induction n with
    | zero => intro a0 a1 a2 a3 a4 a5 a6 a7 a8 _ h; exact absurd h (Nat.not_lt_zero _)
    | succ n ih => intro a0 a1 a2 a3 a4 a5 a6 a7 a8 h hm; exact step (wl_Rec_readGroup_81 post self_Rec_readGroup self_Rec_readOne self_Rec_readValues n) a0 a1 a2 a3 a4 a5 a6 a7 a8 h (fun b0 b1 b2 b3 b4 b5 b6 b7 b8 hb hlt => ih b0 b1 b2 b3 b4 b5 b6 b7 b8 hb (Nat.lt_of_lt_of_le hlt (Nat.le_of_lt_succ hm)))
  exact fun a0 a1 a2 a3 a4 a5 a6 a7 a8 h => ⟨_, key _ a0 a1 a2 a3 a4 a5 a6 a7 a8 h (Nat.lt_succ_self _)⟩
theorem lp_Rec_readValues_87 {post : St → Prop} {self_Rec_readGroup : (St → Prop) → Nat → Int32 → Int32 → Int32 → St → Prop} {self_Rec_readOne : (St → Prop) → Nat → Int32 → Int32 → Int32 → St → Prop} {self_Rec_readValues : (St → Prop) → Nat → Int32 → Int32 → Int32 → St → Prop} (I : Nat → Int32 → Int32 → Int32 → Int32 → Int32 → Int32 → St → Prop) (m : Nat → Int32 → Int32 → Int32 → Int32 → Int32 → Int32 → St → Nat)
    (step : ∀ (R : Nat → Int32 → Int32 → Int32 → Int32 → Int32 → Int32 → St → Prop) (a0 : Nat) (a1 : Int32) (a2 : Int32) (a3 : Int32) (a4 : Int32) (a5 : Int32) (a6 : Int32) (a7 : St), I a0 a1 a2 a3 a4 a5 a6 a7 → (∀ (b0 : Nat) (b1 : Int32) (b2 : Int32) (b3 : Int32) (b4 : Int32) (b5 : Int32) (b6 : Int32) (b7 : St), I b0 b1 b2 b3 b4 b5 b6 b7 → m b0 b1 b2 b3 b4 b5 b6 b7 < m a0 a1 a2 a3 a4 a5 a6 a7 → R b0 b1 b2 b3 b4 b5 b6 b7) → j_Rec_readValues_87 post self_Rec_readGroup self_Rec_readOne self_Rec_readValues R a0 a1 a2 a3 a4 a5 a6 a7) :
    ∀ (a0 : Nat) (a1 : Int32) (a2 : Int32) (a3 : Int32) (a4 : Int32) (a5 : Int32) (a6 : Int32) (a7 : St), I a0 a1 a2 a3 a4 a5 a6 a7 → ∃ n : Nat, wl_Rec_readValues_87 post self_Rec_readGroup self_Rec_readOne self_Rec_readValues n a0 a1 a2 a3 a4 a5 a6 a7 := by
  have key : ∀ (n : Nat) (a0 : Nat) (a1 : Int32) (a2 : Int32) (a3 : Int32) (a4 : Int32) (a5 : Int32) (a6 : Int32) (a7 : St), I a0 a1 a2 a3 a4 a5 a6 a7 → m a0 a1 a2 a3 a4 a5 a6 a7 < n → wl_Rec_readValues_87 post self_Rec_readGroup self_Rec_readOne self_Rec_readValues n a0 a1 a2 a3 a4 a5 a6 a7 := by
    intro n
    induction n with
    | zero => intro a0 a1 a2 a3 a4 a5 a6 a7 _ h; exact absurd h (Nat.not_lt_zero _)
    | succ n ih => intro a0 a1 a2 a3 a4 a5 a6 a7 h hm; exact step (wl_Rec_readValues_87 post self_Rec_readGroup self_Rec_readOne self_Rec_readValues n) a0 a1 a2 a3 a4 a5 a6 a7 h (fun b0 b1 b2 b3 b4 b5 b6 b7 hb hlt => ih b0 b1 b2 b3 b4 b5 b6 b7 hb (Nat.lt_of_lt_of_le hlt (Nat.le_of_lt_succ hm)))
  exact fun a0 a1 a2 a3 a4 a5 a6 a7 h => ⟨_, key _ a0 a1 a2 a3 a4 a5 a6 a7 h (Nat.lt_succ_self _)⟩
theorem lp_Rec_keep_5 {post : St → Prop} (I : Nat → Int32 → St → Prop) (m : Nat → Int32 → St → Nat)
    (step : ∀ (R : Nat → Int32 → St → Prop) (a0 : Nat) (a1 : Int32) (a2 : St), I a0 a1 a2 → (∀ (b0 : Nat) (b1 : Int32) (b2 : St), I b0 b1 b2 → m b0 b1 b2 < m a0 a1 a2 → R b0 b1 b2) → j_Rec_keep_5 post R a0 a1 a2) :
    ∀ (a0 : Nat) (a1 : Int32) (a2 : St), I a0 a1 a2 → ∃ n : Nat, wl_Rec_keep_5 post n a0 a1 a2 := by
  have key : ∀ (n : Nat) (a0 : Nat) (a1 : Int32) (a2 : St), I a0 a1 a2 → m a0 a1 a2 < n → wl_Rec_keep_5 post n a0 a1 a2 := by
    intro n
    induction n with
    | zero => intro a0 a1 a2 _ h; exact absurd h (Nat.not_lt_zero _)
    | succ n ih => intro a0 a1 a2 h hm; exact step (wl_Rec_keep_5 post n) a0 a1 a2 h (fun b0 b1 b2 hb hlt => ih b0 b1 b2 hb (Nat.lt_of_lt_of_le hlt (Nat.le_of_lt_succ hm)))
  exact fun a0 a1 a2 h => ⟨_, key _ a0 a1 a2 h (Nat.lt_succ_self _)⟩
theorem lp_Wrt_takeEntries_11 {post : St → Prop} (I : Nat → Int32 → Int32 → Int32 → Int32 → Int32 → St → Prop) (m : Nat → Int32 → Int32 → Int32 → Int32 → Int32 → St → Nat)
    (step : ∀ (R : Nat → Int32 → Int32 → Int32 → Int32 → Int32 → St → Prop) (a0 : Nat) (a1 : Int32) (a2 : Int32) (a3 : Int32) (a4 : Int32) (a5 : Int32) (a6 : St), I a0 a1 a2 a3 a4 a5 a6 → (∀ (b0 : Nat) (b1 : Int32) (b2 : Int32) (b3 : Int32) (b4 : Int32) (b5 : Int32) (b6 : St), I b0 b1 b2 b3 b4 b5 b6 → m b0 b1 b2 b3 b4 b5 b6 < m a0 a1 a2 a3 a4 a5 a6 → R b0 b1 b2 b3 b4 b5 b6) → j_Wrt_takeEntries_11 post R a0 a1 a2 a3 a4 a5 a6) :
    ∀ (a0 : Nat) (a1 : Int32) (a2 : Int32) (a3 : Int32) (a4 : Int32) (a5 : Int32) (a6 : St), I a0 a1 a2 a3 a4 a5 a6 → ∃ n : Nat, wl_Wrt_takeEntries_11 post n a0 a1 a2 a3 a4 a5 a6 := by
  have key : ∀ (n : Nat) (a0 : Nat) (a1 : Int32) (a2 : Int32) (a3 : Int32) (a4 : Int32) (a5 : Int32) (a6 : St), I a0 a1 a2 a3 a4 a5 a6 → m a0 a1 a2 a3 a4 a5 a6 < n → wl_Wrt_takeEntries_11 post n a0 a1 a2 a3 a4 a5 a6 := by
    intro n
    induction n with
    | zero => intro a0 a1 a2 a3 a4 a5 a6 _ h; exact absurd h (Nat.not_lt_zero _)
    | succ n ih => intro a0 a1 a2 a3 a4 a5 a6 h hm; exact step (wl_Wrt_takeEntries_11 post n) a0 a1 a2 a3 a4 a5 a6 h (fun b0 b1 b2 b3 b4 b5 b6 hb hlt => ih b0 b1 b2 b3 b4 b5 b6 hb (Nat.lt_of_lt_of_le hlt (Nat.le_of_lt_succ hm)))
  exact fun a0 a1 a2 a3 a4 a5 a6 h => ⟨_, key _ a0 a1 a2 a3 a4 a5 a6 h (Nat.lt_succ_self _)⟩
theorem lp_Wrt_fillPage_68 {post : Int32 → St → Prop} {rec48 : Nat → Int32 → Int32 → Int32 → Int32 → Int32 → Int32 → Int32 → St → Prop} (I : Nat → Int32 → Int32 → Int32 → Int32 → Int32 → Int32 → Int32 → Int32 → Int32 → Int32 → St → Prop) (m : Nat → Int32 → Int32 → Int32 → Int32 → Int32 → Int32 → Int32 → Int32 → Int32 → Int32 → St → Nat)
    (step : ∀ (R : Nat → Int32 → Int32 → Int32 → Int32 → Int32 → Int32 → Int32 → Int32 → Int32 → Int32 → St → Prop) (a0 : Nat) (a1 : Int32) (a2 : Int32) (a3 : Int32) (a4 : Int32) (a5 : Int32) (a6 : Int32) (a7 : Int32) (a8 : Int32) (a9 : Int32) (a10 : Int32) (a11 : St), I a0 a1 a2 a3 a4 a5 a6 a7 a8 a9 a10 a11 → (∀ (b0 : Nat) (b1 : Int32) (b2 : Int32) (b3 : Int32) (b4 : Int32) (b5 : Int32) (b6 : Int32) (b7 : Int32) (b8 : Int32) (b9 : Int32) (b10 : Int32) (b11 : St), I b0 b1 b2 b3 b4 b5 b6 b7 b8 b9 b10 b11 → m b0 b1 b2 b3 b4 b5 b6 b7 b8 b9 b10 b11 < m a0 a1 a2 a3 a4 a5 a6 a7 a8 a9 a10 a11 → R b0 b1 b2 b3 b4 b5 b6 b7 b8 b9 b10 b11) → j_Wrt_fillPage_68 post rec48 R a0 a1 a2 a3 a4 a5 a6 a7 a8 a9 a10 a11) :
    ∀ (a0 : Nat) (a1 : Int32) (a2 : Int32) (a3 : Int32) (a4 : Int32) (a5 : Int32) (a6 : Int32) (a7 : Int32) (a8 : Int32) (a9 : Int32) (a10 : Int32) (a11 : St), I a0 a1 a2 a3 a4 a5 a6 a7 a8 a9 a10 a11 → ∃ n : Nat, wl_Wrt_fillPage_68 post rec48 n a0 a1 a2 a3 a4 a5 a6 a7 a8 a9 a10 a11 := by
  have key : ∀ (n : Nat) (a0 : Nat) (a1 : Int32) (a2 : Int32) (a3 : Int32) (a4 : Int32) (a5 : Int32) (a6 : Int32) (a7 : Int32) (a8 : Int32) (a9 : Int32) (a10 : Int32) (a11 : St), I a0 a1 a2 a3 a4 a5 a6 a7 a8 a9 a10 a11 → m a0 a1 a2 a3 a4 a5 a6 a7 a8 a9 a10 a11 < n → wl_Wrt_fillPage_68 post rec48 n a0 a1 a2 a3 a4 a5 a6 a7 a8 a9 a10 a11 := by
    intro n
    induction n with
    | zero => intro a0 a1 a2 a3 a4 a5 a6 a7 a8 a9 a10 a11 _ h; exact absurd h (Nat.not_lt_zero _)
    | succ n ih => intro a0 a1 a2 a3 a4 a5 a6 a7 a8 a9 a10 a11 h hm; exact step (wl_Wrt_fillPage_68 post rec48 n) a0 a1 a2 a3 a4 a5 a6 a7 a8 a9 a10 a11 h (fun b0 b1 b2 b3 b4 b5 b6 b7 b8 b9 b10 b11 hb hlt => ih b0 b1 b2 b3 b4 b5 b6 b7 b8 b9 b10 b11 hb (Nat.lt_of_lt_of_le hlt (Nat.le_of_lt_succ hm)))
  exact fun a0 a1 a2 a3 a4 a5 a6 a7 a8 a9 a10 a11 h => ⟨_, key _ a0 a1 a2 a3 a4 a5 a6 a7 a8 a9 a10 a11 h (Nat.lt_succ_self _)⟩
theorem lp_Wrt_fillPage_48 {post : Int32 → St → Prop} (I : Nat → Int32 → Int32 → Int32 → Int32 → Int32 → Int32 → Int32 → St → Prop) (m : Nat → Int32 → Int32 → Int32 → Int32 → Int32 → Int32 → Int32 → St → Nat)
    (step : ∀ (R : Nat → Int32 → Int32 → Int32 → Int32 → Int32 → Int32 → Int32 → St → Prop) (a0 : Nat) (a1 : Int32) (a2 : Int32) (a3 : Int32) (a4 : Int32) (a5 : Int32) (a6 : Int32) (a7 : Int32) (a8 : St), I a0 a1 a2 a3 a4 a5 a6 a7 a8 → (∀ (b0 : Nat) (b1 : Int32) (b2 : Int32) (b3 : Int32) (b4 : Int32) (b5 : Int32) (b6 : Int32) (b7 : Int32) (b8 : St), I b0 b1 b2 b3 b4 b5 b6 b7 b8 → m b0 b1 b2 b3 b4 b5 b6 b7 b8 < m a0 a1 a2 a3 a4 a5 a6 a7 a8 → R b0 b1 b2 b3 b4 b5 b6 b7 b8) → j_Wrt_fillPage_48 post R a0 a1 a2 a3 a4 a5 a6 a7 a8) :
    ∀ (a0 : Nat) (a1 : Int32) (a2 : Int32) (a3 : Int32) (a4 : Int32) (a5 : Int32) (a6 : Int32) (a7 : Int32) (a8 : St), I a0 a1 a2 a3 a4 a5 a6 a7 a8 → ∃ n : Nat, wl_Wrt_fillPage_48 post n a0 a1 a2 a3 a4 a5 a6 a7 a8 := by
  have key : ∀ (n : Nat) (a0 : Nat) (a1 : Int32) (a2 : Int32) (a3 : Int32) (a4 : Int32) (a5 : Int32) (a6 : Int32) (a7 : Int32) (a8 : St), I a0 a1 a2 a3 a4 a5 a6 a7 a8 → m a0 a1 a2 a3 a4 a5 a6 a7 a8 < n → wl_Wrt_fillPage_48 post n a0 a1 a2 a3 a4 a5 a6 a7 a8 := by
    intro n
    induction n with
    | zero => intro a0 a1 a2 a3 a4 a5 a6 a7 a8 _ h; exact absurd h (Nat.not_lt_zero _)
    | succ n ih => intro a0 a1 a2 a3 a4 a5 a6 a7 a8 h hm; exact step (wl_Wrt_fillPage_48 post n) a0 a1 a2 a3 a4 a5 a6 a7 a8 h (fun b0 b1 b2 b3 b4 b5 b6 b7 b8 hb hlt => ih b0 b1 b2 b3 b4 b5 b6 b7 b8 hb (Nat.lt_of_lt_of_le hlt (Nat.le_of_lt_succ hm)))
  exact fun a0 a1 a2 a3 a4 a5 a6 a7 a8 h => ⟨_, key _ a0 a1 a2 a3 a4 a5 a6 a7 a8 h (Nat.lt_succ_self _)⟩
theorem lp_Snk_sameFrom_3 {post : Int32 → St → Prop} (I : Nat → Int32 → Int32 → Int32 → Int32 → St → Prop) (m : Nat → Int32 → Int32 → Int32 → Int32 → St → Nat)
    (step : ∀ (R : Nat → Int32 → Int32 → Int32 → Int32 → St → Prop) (a0 : Nat) (a1 : Int32) (a2 : Int32) (a3 : Int32) (a4 : Int32) (a5 : St), I a0 a1 a2 a3 a4 a5 → (∀ (b0 : Nat) (b1 : Int32) (b2 : Int32) (b3 : Int32) (b4 : Int32) (b5 : St), I b0 b1 b2 b3 b4 b5 → m b0 b1 b2 b3 b4 b5 < m a0 a1 a2 a3 a4 a5 → R b0 b1 b2 b3 b4 b5) → j_Snk_sameFrom_3 post R a0 a1 a2 a3 a4 a5) :
    ∀ (a0 : Nat) (a1 : Int32) (a2 : Int32) (a3 : Int32) (a4 : Int32) (a5 : St), I a0 a1 a2 a3 a4 a5 → ∃ n : Nat, wl_Snk_sameFrom_3 post n a0 a1 a2 a3 a4 a5 := by
  have key : ∀ (n : Nat) (a0 : Nat) (a1 : Int32) (a2 : Int32) (a3 : Int32) (a4 : Int32) (a5 : St), I a0 a1 a2 a3 a4 a5 → m a0 a1 a2 a3 a4 a5 < n → wl_Snk_sameFrom_3 post n a0 a1 a2 a3 a4 a5 := by
    intro n
    induction n with
    | zero => intro a0 a1 a2 a3 a4 a5 _ h; exact absurd h (Nat.not_lt_zero _)
    | succ n ih => intro a0 a1 a2 a3 a4 a5 h hm; exact step (wl_Snk_sameFrom_3 post n) a0 a1 a2 a3 a4 a5 h (fun b0 b1 b2 b3 b4 b5 hb hlt => ih b0 b1 b2 b3 b4 b5 hb (Nat.lt_of_lt_of_le hlt (Nat.le_of_lt_succ hm)))
  exact fun a0 a1 a2 a3 a4 a5 h => ⟨_, key _ a0 a1 a2 a3 a4 a5 h (Nat.lt_succ_self _)⟩
theorem lp_V_hashOf_31 {post : Int32 → St → Prop} (I : Int32 → Nat → Int64 → Int32 → Int32 → Int32 → Int32 → St → Prop) (m : Int32 → Nat → Int64 → Int32 → Int32 → Int32 → Int32 → St → Nat)
    (step : ∀ (R : Int32 → Nat → Int64 → Int32 → Int32 → Int32 → Int32 → St → Prop) (a0 : Int32) (a1 : Nat) (a2 : Int64) (a3 : Int32) (a4 : Int32) (a5 : Int32) (a6 : Int32) (a7 : St), I a0 a1 a2 a3 a4 a5 a6 a7 → (∀ (b0 : Int32) (b1 : Nat) (b2 : Int64) (b3 : Int32) (b4 : Int32) (b5 : Int32) (b6 : Int32) (b7 : St), I b0 b1 b2 b3 b4 b5 b6 b7 → m b0 b1 b2 b3 b4 b5 b6 b7 < m a0 a1 a2 a3 a4 a5 a6 a7 → R b0 b1 b2 b3 b4 b5 b6 b7) → j_V_hashOf_31 post R a0 a1 a2 a3 a4 a5 a6 a7) :
    ∀ (a0 : Int32) (a1 : Nat) (a2 : Int64) (a3 : Int32) (a4 : Int32) (a5 : Int32) (a6 : Int32) (a7 : St), I a0 a1 a2 a3 a4 a5 a6 a7 → ∃ n : Nat, wl_V_hashOf_31 post n a0 a1 a2 a3 a4 a5 a6 a7 := by
  have key : ∀ (n : Nat) (a0 : Int32) (a1 : Nat) (a2 : Int64) (a3 : Int32) (a4 : Int32) (a5 : Int32) (a6 : Int32) (a7 : St), I a0 a1 a2 a3 a4 a5 a6 a7 → m a0 a1 a2 a3 a4 a5 a6 a7 < n → wl_V_hashOf_31 post n a0 a1 a2 a3 a4 a5 a6 a7 := by
    intro n
    induction n with
    | zero => intro a0 a1 a2 a3 a4 a5 a6 a7 _ h; exact absurd h (Nat.not_lt_zero _)
    | succ n ih => intro a0 a1 a2 a3 a4 a5 a6 a7 h hm; exact step (wl_V_hashOf_31 post n) a0 a1 a2 a3 a4 a5 a6 a7 h (fun b0 b1 b2 b3 b4 b5 b6 b7 hb hlt => ih b0 b1 b2 b3 b4 b5 b6 b7 hb (Nat.lt_of_lt_of_le hlt (Nat.le_of_lt_succ hm)))
  exact fun a0 a1 a2 a3 a4 a5 a6 a7 h => ⟨_, key _ a0 a1 a2 a3 a4 a5 a6 a7 h (Nat.lt_succ_self _)⟩
theorem lp_V_compareValues_56 {post : Int32 → St → Prop} (I : Int32 → Nat → Int64 → Nat → Int64 → Int32 → Int32 → Int32 → Int32 → Int32 → Int32 → St → Prop) (m : Int32 → Nat → Int64 → Nat → Int64 → Int32 → Int32 → Int32 → Int32 → Int32 → Int32 → St → Nat)
    (step : ∀ (R : Int32 → Nat → Int64 → Nat → Int64 → Int32 → Int32 → Int32 → Int32 → Int32 → Int32 → St → Prop) (a0 : Int32) (a1 : Nat) (a2 : Int64) (a3 : Nat) (a4 : Int64) (a5 : Int32) (a6 : Int32) (a7 : Int32) (a8 : Int32) (a9 : Int32) (a10 : Int32) (a11 : St), I a0 a1 a2 a3 a4 a5 a6 a7 a8 a9 a10 a11 → (∀ (b0 : Int32) (b1 : Nat) (b2 : Int64) (b3 : Nat) (b4 : Int64) (b5 : Int32) (b6 : Int32) (b7 : Int32) (b8 : Int32) (b9 : Int32) (b10 : Int32) (b11 : St), I b0 b1 b2 b3 b4 b5 b6 b7 b8 b9 b10 b11 → m b0 b1 b2 b3 b4 b5 b6 b7 b8 b9 b10 b11 < m a0 a1 a2 a3 a4 a5 a6 a7 a8 a9 a10 a11 → R b0 b1 b2 b3 b4 b5 b6 b7 b8 b9 b10 b11) → j_V_compareValues_56 post R a0 a1 a2 a3 a4 a5 a6 a7 a8 a9 a10 a11) :
    ∀ (a0 : Int32) (a1 : Nat) (a2 : Int64) (a3 : Nat) (a4 : Int64) (a5 : Int32) (a6 : Int32) (a7 : Int32) (a8 : Int32) (a9 : Int32) (a10 : Int32) (a11 : St), I a0 a1 a2 a3 a4 a5 a6 a7 a8 a9 a10 a11 → ∃ n : Nat, wl_V_compareValues_56 post n a0 a1 a2 a3 a4 a5 a6 a7 a8 a9 a10 a11 := by
  have key : ∀ (n : Nat) (a0 : Int32) (a1 : Nat) (a2 : Int64) (a3 : Nat) (a4 : Int64) (a5 : Int32) (a6 : Int32) (a7 : Int32) (a8 : Int32) (a9 : Int32) (a10 : Int32) (a11 : St), I a0 a1 a2 a3 a4 a5 a6 a7 a8 a9 a10 a11 → m a0 a1 a2 a3 a4 a5 a6 a7 a8 a9 a10 a11 < n → wl_V_compareValues_56 post n a0 a1 a2 a3 a4 a5 a6 a7 a8 a9 a10 a11 := by
    intro n
    induction n with
    | zero => intro a0 a1 a2 a3 a4 a5 a6 a7 a8 a9 a10 a11 _ h; exact absurd h (Nat.not_lt_zero _)
    | succ n ih => intro a0 a1 a2 a3 a4 a5 a6 a7 a8 a9 a10 a11 h hm; exact step (wl_V_compareValues_56 post n) a0 a1 a2 a3 a4 a5 a6 a7 a8 a9 a10 a11 h (fun b0 b1 b2 b3 b4 b5 b6 b7 b8 b9 b10 b11 hb hlt => ih b0 b1 b2 b3 b4 b5 b6 b7 b8 b9 b10 b11 hb (Nat.lt_of_lt_of_le hlt (Nat.le_of_lt_succ hm)))
  exact fun a0 a1 a2 a3 a4 a5 a6 a7 a8 a9 a10 a11 h => ⟨_, key _ a0 a1 a2 a3 a4 a5 a6 a7 a8 a9 a10 a11 h (Nat.lt_succ_self _)⟩
theorem lp_Wrt_slotOf_25 {post : Int32 → St → Prop} (I : Nat → Int32 → Int64 → Nat → Int32 → Int32 → St → Prop) (m : Nat → Int32 → Int64 → Nat → Int32 → Int32 → St → Nat)
    (step : ∀ (R : Nat → Int32 → Int64 → Nat → Int32 → Int32 → St → Prop) (a0 : Nat) (a1 : Int32) (a2 : Int64) (a3 : Nat) (a4 : Int32) (a5 : Int32) (a6 : St), I a0 a1 a2 a3 a4 a5 a6 → (∀ (b0 : Nat) (b1 : Int32) (b2 : Int64) (b3 : Nat) (b4 : Int32) (b5 : Int32) (b6 : St), I b0 b1 b2 b3 b4 b5 b6 → m b0 b1 b2 b3 b4 b5 b6 < m a0 a1 a2 a3 a4 a5 a6 → R b0 b1 b2 b3 b4 b5 b6) → j_Wrt_slotOf_25 post R a0 a1 a2 a3 a4 a5 a6) :
    ∀ (a0 : Nat) (a1 : Int32) (a2 : Int64) (a3 : Nat) (a4 : Int32) (a5 : Int32) (a6 : St), I a0 a1 a2 a3 a4 a5 a6 → ∃ n : Nat, wl_Wrt_slotOf_25 post n a0 a1 a2 a3 a4 a5 a6 := by
  have key : ∀ (n : Nat) (a0 : Nat) (a1 : Int32) (a2 : Int64) (a3 : Nat) (a4 : Int32) (a5 : Int32) (a6 : St), I a0 a1 a2 a3 a4 a5 a6 → m a0 a1 a2 a3 a4 a5 a6 < n → wl_Wrt_slotOf_25 post n a0 a1 a2 a3 a4 a5 a6 := by
    intro n
    induction n with
    | zero => intro a0 a1 a2 a3 a4 a5 a6 _ h; exact absurd h (Nat.not_lt_zero _)
    | succ n ih => intro a0 a1 a2 a3 a4 a5 a6 h hm; exact step (wl_Wrt_slotOf_25 post n) a0 a1 a2 a3 a4 a5 a6 h (fun b0 b1 b2 b3 b4 b5 b6 hb hlt => ih b0 b1 b2 b3 b4 b5 b6 hb (Nat.lt_of_lt_of_le hlt (Nat.le_of_lt_succ hm)))
  exact fun a0 a1 a2 a3 a4 a5 a6 h => ⟨_, key _ a0 a1 a2 a3 a4 a5 a6 h (Nat.lt_succ_self _)⟩
theorem lp_V_widthOf_2 {post : Int32 → St → Prop} (I : Int64 → Int32 → St → Prop) (m : Int64 → Int32 → St → Nat)
    (step : ∀ (R : Int64 → Int32 → St → Prop) (a0 : Int64) (a1 : Int32) (a2 : St), I a0 a1 a2 → (∀ (b0 : Int64) (b1 : Int32) (b2 : St), I b0 b1 b2 → m b0 b1 b2 < m a0 a1 a2 → R b0 b1 b2) → j_V_widthOf_2 post R a0 a1 a2) :
    ∀ (a0 : Int64) (a1 : Int32) (a2 : St), I a0 a1 a2 → ∃ n : Nat, wl_V_widthOf_2 post n a0 a1 a2 := by
  have key : ∀ (n : Nat) (a0 : Int64) (a1 : Int32) (a2 : St), I a0 a1 a2 → m a0 a1 a2 < n → wl_V_widthOf_2 post n a0 a1 a2 := by
    intro n
    induction n with
    | zero => intro a0 a1 a2 _ h; exact absurd h (Nat.not_lt_zero _)
    | succ n ih => intro a0 a1 a2 h hm; exact step (wl_V_widthOf_2 post n) a0 a1 a2 h (fun b0 b1 b2 hb hlt => ih b0 b1 b2 hb (Nat.lt_of_lt_of_le hlt (Nat.le_of_lt_succ hm)))
  exact fun a0 a1 a2 h => ⟨_, key _ a0 a1 a2 h (Nat.lt_succ_self _)⟩
theorem lp_V_inCommon_33 {post : Int32 → St → Prop} (I : Nat → Int64 → Int64 → Int32 → Int32 → Int32 → Int32 → St → Prop) (m : Nat → Int64 → Int64 → Int32 → Int32 → Int32 → Int32 → St → Nat)
    (step : ∀ (R : Nat → Int64 → Int64 → Int32 → Int32 → Int32 → Int32 → St → Prop) (a0 : Nat) (a1 : Int64) (a2 : Int64) (a3 : Int32) (a4 : Int32) (a5 : Int32) (a6 : Int32) (a7 : St), I a0 a1 a2 a3 a4 a5 a6 a7 → (∀ (b0 : Nat) (b1 : Int64) (b2 : Int64) (b3 : Int32) (b4 : Int32) (b5 : Int32) (b6 : Int32) (b7 : St), I b0 b1 b2 b3 b4 b5 b6 b7 → m b0 b1 b2 b3 b4 b5 b6 b7 < m a0 a1 a2 a3 a4 a5 a6 a7 → R b0 b1 b2 b3 b4 b5 b6 b7) → j_V_inCommon_33 post R a0 a1 a2 a3 a4 a5 a6 a7) :
    ∀ (a0 : Nat) (a1 : Int64) (a2 : Int64) (a3 : Int32) (a4 : Int32) (a5 : Int32) (a6 : Int32) (a7 : St), I a0 a1 a2 a3 a4 a5 a6 a7 → ∃ n : Nat, wl_V_inCommon_33 post n a0 a1 a2 a3 a4 a5 a6 a7 := by
  have key : ∀ (n : Nat) (a0 : Nat) (a1 : Int64) (a2 : Int64) (a3 : Int32) (a4 : Int32) (a5 : Int32) (a6 : Int32) (a7 : St), I a0 a1 a2 a3 a4 a5 a6 a7 → m a0 a1 a2 a3 a4 a5 a6 a7 < n → wl_V_inCommon_33 post n a0 a1 a2 a3 a4 a5 a6 a7 := by
    intro n
    induction n with
    | zero => intro a0 a1 a2 a3 a4 a5 a6 a7 _ h; exact absurd h (Nat.not_lt_zero _)
    | succ n ih => intro a0 a1 a2 a3 a4 a5 a6 a7 h hm; exact step (wl_V_inCommon_33 post n) a0 a1 a2 a3 a4 a5 a6 a7 h (fun b0 b1 b2 b3 b4 b5 b6 b7 hb hlt => ih b0 b1 b2 b3 b4 b5 b6 b7 hb (Nat.lt_of_lt_of_le hlt (Nat.le_of_lt_succ hm)))
  exact fun a0 a1 a2 a3 a4 a5 a6 a7 h => ⟨_, key _ a0 a1 a2 a3 a4 a5 a6 a7 h (Nat.lt_succ_self _)⟩
theorem lp_Wrt_findBounds_22 {post : St → Prop} (I : Nat → Int32 → Int32 → St → Prop) (m : Nat → Int32 → Int32 → St → Nat)
    (step : ∀ (R : Nat → Int32 → Int32 → St → Prop) (a0 : Nat) (a1 : Int32) (a2 : Int32) (a3 : St), I a0 a1 a2 a3 → (∀ (b0 : Nat) (b1 : Int32) (b2 : Int32) (b3 : St), I b0 b1 b2 b3 → m b0 b1 b2 b3 < m a0 a1 a2 a3 → R b0 b1 b2 b3) → j_Wrt_findBounds_22 post R a0 a1 a2 a3) :
    ∀ (a0 : Nat) (a1 : Int32) (a2 : Int32) (a3 : St), I a0 a1 a2 a3 → ∃ n : Nat, wl_Wrt_findBounds_22 post n a0 a1 a2 a3 := by
  have key : ∀ (n : Nat) (a0 : Nat) (a1 : Int32) (a2 : Int32) (a3 : St), I a0 a1 a2 a3 → m a0 a1 a2 a3 < n → wl_Wrt_findBounds_22 post n a0 a1 a2 a3 := by
    intro n
    induction n with
    | zero => intro a0 a1 a2 a3 _ h; exact absurd h (Nat.not_lt_zero _)
    | succ n ih => intro a0 a1 a2 a3 h hm; exact step (wl_Wrt_findBounds_22 post n) a0 a1 a2 a3 h (fun b0 b1 b2 b3 hb hlt => ih b0 b1 b2 b3 hb (Nat.lt_of_lt_of_le hlt (Nat.le_of_lt_succ hm)))
  exact fun a0 a1 a2 a3 h => ⟨_, key _ a0 a1 a2 a3 h (Nat.lt_succ_self _)⟩
theorem lp_V_checkOf_5 {post : Int32 → St → Prop} (I : Nat → Int32 → Int32 → Int32 → Int32 → St → Prop) (m : Nat → Int32 → Int32 → Int32 → Int32 → St → Nat)
    (step : ∀ (R : Nat → Int32 → Int32 → Int32 → Int32 → St → Prop) (a0 : Nat) (a1 : Int32) (a2 : Int32) (a3 : Int32) (a4 : Int32) (a5 : St), I a0 a1 a2 a3 a4 a5 → (∀ (b0 : Nat) (b1 : Int32) (b2 : Int32) (b3 : Int32) (b4 : Int32) (b5 : St), I b0 b1 b2 b3 b4 b5 → m b0 b1 b2 b3 b4 b5 < m a0 a1 a2 a3 a4 a5 → R b0 b1 b2 b3 b4 b5) → j_V_checkOf_5 post R a0 a1 a2 a3 a4 a5) :
    ∀ (a0 : Nat) (a1 : Int32) (a2 : Int32) (a3 : Int32) (a4 : Int32) (a5 : St), I a0 a1 a2 a3 a4 a5 → ∃ n : Nat, wl_V_checkOf_5 post n a0 a1 a2 a3 a4 a5 := by
  have key : ∀ (n : Nat) (a0 : Nat) (a1 : Int32) (a2 : Int32) (a3 : Int32) (a4 : Int32) (a5 : St), I a0 a1 a2 a3 a4 a5 → m a0 a1 a2 a3 a4 a5 < n → wl_V_checkOf_5 post n a0 a1 a2 a3 a4 a5 := by
    intro n
    induction n with
    | zero => intro a0 a1 a2 a3 a4 a5 _ h; exact absurd h (Nat.not_lt_zero _)
    | succ n ih => intro a0 a1 a2 a3 a4 a5 h hm; exact step (wl_V_checkOf_5 post n) a0 a1 a2 a3 a4 a5 h (fun b0 b1 b2 b3 b4 b5 hb hlt => ih b0 b1 b2 b3 b4 b5 hb (Nat.lt_of_lt_of_le hlt (Nat.le_of_lt_succ hm)))
  exact fun a0 a1 a2 a3 a4 a5 h => ⟨_, key _ a0 a1 a2 a3 a4 a5 h (Nat.lt_succ_self _)⟩
theorem lp_Src_readFixed_39 {post : Int64 → St → Prop} (I : Nat → Int32 → Int64 → Int32 → St → Prop) (m : Nat → Int32 → Int64 → Int32 → St → Nat)
    (step : ∀ (R : Nat → Int32 → Int64 → Int32 → St → Prop) (a0 : Nat) (a1 : Int32) (a2 : Int64) (a3 : Int32) (a4 : St), I a0 a1 a2 a3 a4 → (∀ (b0 : Nat) (b1 : Int32) (b2 : Int64) (b3 : Int32) (b4 : St), I b0 b1 b2 b3 b4 → m b0 b1 b2 b3 b4 < m a0 a1 a2 a3 a4 → R b0 b1 b2 b3 b4) → j_Src_readFixed_39 post R a0 a1 a2 a3 a4) :
    ∀ (a0 : Nat) (a1 : Int32) (a2 : Int64) (a3 : Int32) (a4 : St), I a0 a1 a2 a3 a4 → ∃ n : Nat, wl_Src_readFixed_39 post n a0 a1 a2 a3 a4 := by
  have key : ∀ (n : Nat) (a0 : Nat) (a1 : Int32) (a2 : Int64) (a3 : Int32) (a4 : St), I a0 a1 a2 a3 a4 → m a0 a1 a2 a3 a4 < n → wl_Src_readFixed_39 post n a0 a1 a2 a3 a4 := by
    intro n
    induction n with
    | zero => intro a0 a1 a2 a3 a4 _ h; exact absurd h (Nat.not_lt_zero _)
    | succ n ih => intro a0 a1 a2 a3 a4 h hm; exact step (wl_Src_readFixed_39 post n) a0 a1 a2 a3 a4 h (fun b0 b1 b2 b3 b4 hb hlt => ih b0 b1 b2 b3 b4 hb (Nat.lt_of_lt_of_le hlt (Nat.le_of_lt_succ hm)))
  exact fun a0 a1 a2 a3 a4 h => ⟨_, key _ a0 a1 a2 a3 a4 h (Nat.lt_succ_self _)⟩
theorem lp_Opn_lookAtFrame_60 {post : Int32 → St → Prop} (I : Nat → Nat → Int32 → Int32 → St → Prop) (m : Nat → Nat → Int32 → Int32 → St → Nat)
    (step : ∀ (R : Nat → Nat → Int32 → Int32 → St → Prop) (a0 : Nat) (a1 : Nat) (a2 : Int32) (a3 : Int32) (a4 : St), I a0 a1 a2 a3 a4 → (∀ (b0 : Nat) (b1 : Nat) (b2 : Int32) (b3 : Int32) (b4 : St), I b0 b1 b2 b3 b4 → m b0 b1 b2 b3 b4 < m a0 a1 a2 a3 a4 → R b0 b1 b2 b3 b4) → j_Opn_lookAtFrame_60 post R a0 a1 a2 a3 a4) :
    ∀ (a0 : Nat) (a1 : Nat) (a2 : Int32) (a3 : Int32) (a4 : St), I a0 a1 a2 a3 a4 → ∃ n : Nat, wl_Opn_lookAtFrame_60 post n a0 a1 a2 a3 a4 := by
  have key : ∀ (n : Nat) (a0 : Nat) (a1 : Nat) (a2 : Int32) (a3 : Int32) (a4 : St), I a0 a1 a2 a3 a4 → m a0 a1 a2 a3 a4 < n → wl_Opn_lookAtFrame_60 post n a0 a1 a2 a3 a4 := by
    intro n
    induction n with
    | zero => intro a0 a1 a2 a3 a4 _ h; exact absurd h (Nat.not_lt_zero _)
    | succ n ih => intro a0 a1 a2 a3 a4 h hm; exact step (wl_Opn_lookAtFrame_60 post n) a0 a1 a2 a3 a4 h (fun b0 b1 b2 b3 b4 hb hlt => ih b0 b1 b2 b3 b4 hb (Nat.lt_of_lt_of_le hlt (Nat.le_of_lt_succ hm)))
  exact fun a0 a1 a2 a3 a4 h => ⟨_, key _ a0 a1 a2 a3 a4 h (Nat.lt_succ_self _)⟩
theorem lp_Src_readVarint_4 {post : Int64 → St → Prop} (I : Nat → Int64 → Int32 → St → Prop) (m : Nat → Int64 → Int32 → St → Nat)
    (step : ∀ (R : Nat → Int64 → Int32 → St → Prop) (a0 : Nat) (a1 : Int64) (a2 : Int32) (a3 : St), I a0 a1 a2 a3 → (∀ (b0 : Nat) (b1 : Int64) (b2 : Int32) (b3 : St), I b0 b1 b2 b3 → m b0 b1 b2 b3 < m a0 a1 a2 a3 → R b0 b1 b2 b3) → j_Src_readVarint_4 post R a0 a1 a2 a3) :
    ∀ (a0 : Nat) (a1 : Int64) (a2 : Int32) (a3 : St), I a0 a1 a2 a3 → ∃ n : Nat, wl_Src_readVarint_4 post n a0 a1 a2 a3 := by
  have key : ∀ (n : Nat) (a0 : Nat) (a1 : Int64) (a2 : Int32) (a3 : St), I a0 a1 a2 a3 → m a0 a1 a2 a3 < n → wl_Src_readVarint_4 post n a0 a1 a2 a3 := by
    intro n
    induction n with
    | zero => intro a0 a1 a2 a3 _ h; exact absurd h (Nat.not_lt_zero _)
    | succ n ih => intro a0 a1 a2 a3 h hm; exact step (wl_Src_readVarint_4 post n) a0 a1 a2 a3 h (fun b0 b1 b2 b3 hb hlt => ih b0 b1 b2 b3 hb (Nat.lt_of_lt_of_le hlt (Nat.le_of_lt_succ hm)))
  exact fun a0 a1 a2 a3 h => ⟨_, key _ a0 a1 a2 a3 h (Nat.lt_succ_self _)⟩
theorem lp_Opn_isGroupAround_41 {post : Int32 → St → Prop} (I : Nat → Int64 → Int32 → Int32 → Int32 → St → Prop) (m : Nat → Int64 → Int32 → Int32 → Int32 → St → Nat)
    (step : ∀ (R : Nat → Int64 → Int32 → Int32 → Int32 → St → Prop) (a0 : Nat) (a1 : Int64) (a2 : Int32) (a3 : Int32) (a4 : Int32) (a5 : St), I a0 a1 a2 a3 a4 a5 → (∀ (b0 : Nat) (b1 : Int64) (b2 : Int32) (b3 : Int32) (b4 : Int32) (b5 : St), I b0 b1 b2 b3 b4 b5 → m b0 b1 b2 b3 b4 b5 < m a0 a1 a2 a3 a4 a5 → R b0 b1 b2 b3 b4 b5) → j_Opn_isGroupAround_41 post R a0 a1 a2 a3 a4 a5) :
    ∀ (a0 : Nat) (a1 : Int64) (a2 : Int32) (a3 : Int32) (a4 : Int32) (a5 : St), I a0 a1 a2 a3 a4 a5 → ∃ n : Nat, wl_Opn_isGroupAround_41 post n a0 a1 a2 a3 a4 a5 := by
  have key : ∀ (n : Nat) (a0 : Nat) (a1 : Int64) (a2 : Int32) (a3 : Int32) (a4 : Int32) (a5 : St), I a0 a1 a2 a3 a4 a5 → m a0 a1 a2 a3 a4 a5 < n → wl_Opn_isGroupAround_41 post n a0 a1 a2 a3 a4 a5 := by
    intro n
    induction n with
    | zero => intro a0 a1 a2 a3 a4 a5 _ h; exact absurd h (Nat.not_lt_zero _)
    | succ n ih => intro a0 a1 a2 a3 a4 a5 h hm; exact step (wl_Opn_isGroupAround_41 post n) a0 a1 a2 a3 a4 a5 h (fun b0 b1 b2 b3 b4 b5 hb hlt => ih b0 b1 b2 b3 b4 b5 hb (Nat.lt_of_lt_of_le hlt (Nat.le_of_lt_succ hm)))
  exact fun a0 a1 a2 a3 a4 a5 h => ⟨_, key _ a0 a1 a2 a3 a4 a5 h (Nat.lt_succ_self _)⟩
theorem lp_Opn_isName_30 {post : Int32 → St → Prop} (I : Nat → Int32 → Int32 → Int32 → St → Prop) (m : Nat → Int32 → Int32 → Int32 → St → Nat)
    (step : ∀ (R : Nat → Int32 → Int32 → Int32 → St → Prop) (a0 : Nat) (a1 : Int32) (a2 : Int32) (a3 : Int32) (a4 : St), I a0 a1 a2 a3 a4 → (∀ (b0 : Nat) (b1 : Int32) (b2 : Int32) (b3 : Int32) (b4 : St), I b0 b1 b2 b3 b4 → m b0 b1 b2 b3 b4 < m a0 a1 a2 a3 a4 → R b0 b1 b2 b3 b4) → j_Opn_isName_30 post R a0 a1 a2 a3 a4) :
    ∀ (a0 : Nat) (a1 : Int32) (a2 : Int32) (a3 : Int32) (a4 : St), I a0 a1 a2 a3 a4 → ∃ n : Nat, wl_Opn_isName_30 post n a0 a1 a2 a3 a4 := by
  have key : ∀ (n : Nat) (a0 : Nat) (a1 : Int32) (a2 : Int32) (a3 : Int32) (a4 : St), I a0 a1 a2 a3 a4 → m a0 a1 a2 a3 a4 < n → wl_Opn_isName_30 post n a0 a1 a2 a3 a4 := by
    intro n
    induction n with
    | zero => intro a0 a1 a2 a3 a4 _ h; exact absurd h (Nat.not_lt_zero _)
    | succ n ih => intro a0 a1 a2 a3 a4 h hm; exact step (wl_Opn_isName_30 post n) a0 a1 a2 a3 a4 h (fun b0 b1 b2 b3 b4 hb hlt => ih b0 b1 b2 b3 b4 hb (Nat.lt_of_lt_of_le hlt (Nat.le_of_lt_succ hm)))
  exact fun a0 a1 a2 a3 a4 h => ⟨_, key _ a0 a1 a2 a3 a4 h (Nat.lt_succ_self _)⟩
theorem lp_Opn_readSchema_79 {post : St → Prop} (I : Nat → Nat → Int64 → Int32 → St → Prop) (m : Nat → Nat → Int64 → Int32 → St → Nat)
    (step : ∀ (R : Nat → Nat → Int64 → Int32 → St → Prop) (a0 : Nat) (a1 : Nat) (a2 : Int64) (a3 : Int32) (a4 : St), I a0 a1 a2 a3 a4 → (∀ (b0 : Nat) (b1 : Nat) (b2 : Int64) (b3 : Int32) (b4 : St), I b0 b1 b2 b3 b4 → m b0 b1 b2 b3 b4 < m a0 a1 a2 a3 a4 → R b0 b1 b2 b3 b4) → j_Opn_readSchema_79 post R a0 a1 a2 a3 a4) :
    ∀ (a0 : Nat) (a1 : Nat) (a2 : Int64) (a3 : Int32) (a4 : St), I a0 a1 a2 a3 a4 → ∃ n : Nat, wl_Opn_readSchema_79 post n a0 a1 a2 a3 a4 := by
  have key : ∀ (n : Nat) (a0 : Nat) (a1 : Nat) (a2 : Int64) (a3 : Int32) (a4 : St), I a0 a1 a2 a3 a4 → m a0 a1 a2 a3 a4 < n → wl_Opn_readSchema_79 post n a0 a1 a2 a3 a4 := by
    intro n
    induction n with
    | zero => intro a0 a1 a2 a3 a4 _ h; exact absurd h (Nat.not_lt_zero _)
    | succ n ih => intro a0 a1 a2 a3 a4 h hm; exact step (wl_Opn_readSchema_79 post n) a0 a1 a2 a3 a4 h (fun b0 b1 b2 b3 b4 hb hlt => ih b0 b1 b2 b3 b4 hb (Nat.lt_of_lt_of_le hlt (Nat.le_of_lt_succ hm)))
  exact fun a0 a1 a2 a3 a4 h => ⟨_, key _ a0 a1 a2 a3 a4 h (Nat.lt_succ_self _)⟩
theorem lp_Opn_readSchema_45 {post : St → Prop} (I : Nat → Nat → Int64 → Int32 → St → Prop) (m : Nat → Nat → Int64 → Int32 → St → Nat)
    (step : ∀ (R : Nat → Nat → Int64 → Int32 → St → Prop) (a0 : Nat) (a1 : Nat) (a2 : Int64) (a3 : Int32) (a4 : St), I a0 a1 a2 a3 a4 → (∀ (b0 : Nat) (b1 : Nat) (b2 : Int64) (b3 : Int32) (b4 : St), I b0 b1 b2 b3 b4 → m b0 b1 b2 b3 b4 < m a0 a1 a2 a3 a4 → R b0 b1 b2 b3 b4) → j_Opn_readSchema_45 post R a0 a1 a2 a3 a4) :
    ∀ (a0 : Nat) (a1 : Nat) (a2 : Int64) (a3 : Int32) (a4 : St), I a0 a1 a2 a3 a4 → ∃ n : Nat, wl_Opn_readSchema_45 post n a0 a1 a2 a3 a4 := by
  have key : ∀ (n : Nat) (a0 : Nat) (a1 : Nat) (a2 : Int64) (a3 : Int32) (a4 : St), I a0 a1 a2 a3 a4 → m a0 a1 a2 a3 a4 < n → wl_Opn_readSchema_45 post n a0 a1 a2 a3 a4 := by
    intro n
    induction n with
    | zero => intro a0 a1 a2 a3 a4 _ h; exact absurd h (Nat.not_lt_zero _)
    | succ n ih => intro a0 a1 a2 a3 a4 h hm; exact step (wl_Opn_readSchema_45 post n) a0 a1 a2 a3 a4 h (fun b0 b1 b2 b3 b4 hb hlt => ih b0 b1 b2 b3 b4 hb (Nat.lt_of_lt_of_le hlt (Nat.le_of_lt_succ hm)))
  exact fun a0 a1 a2 a3 a4 h => ⟨_, key _ a0 a1 a2 a3 a4 h (Nat.lt_succ_self _)⟩
theorem lp_Opn_lookAtFooter_153 {post : Int32 → St → Prop} {rec83 : Nat → Nat → Int64 → Int64 → Int64 → Int64 → Int32 → St → Prop} (I : Nat → Nat → Int64 → Int64 → Int64 → Int64 → Int32 → Int64 → Int32 → St → Prop) (m : Nat → Nat → Int64 → Int64 → Int64 → Int64 → Int32 → Int64 → Int32 → St → Nat)
    (step : ∀ (R : Nat → Nat → Int64 → Int64 → Int64 → Int64 → Int32 → Int64 → Int32 → St → Prop) (a0 : Nat) (a1 : Nat) (a2 : Int64) (a3 : Int64) (a4 : Int64) (a5 : Int64) (a6 : Int32) (a7 : Int64) (a8 : Int32) (a9 : St), I a0 a1 a2 a3 a4 a5 a6 a7 a8 a9 → (∀ (b0 : Nat) (b1 : Nat) (b2 : Int64) (b3 : Int64) (b4 : Int64) (b5 : Int64) (b6 : Int32) (b7 : Int64) (b8 : Int32) (b9 : St), I b0 b1 b2 b3 b4 b5 b6 b7 b8 b9 → m b0 b1 b2 b3 b4 b5 b6 b7 b8 b9 < m a0 a1 a2 a3 a4 a5 a6 a7 a8 a9 → R b0 b1 b2 b3 b4 b5 b6 b7 b8 b9) → j_Opn_lookAtFooter_153 post rec83 R a0 a1 a2 a3 a4 a5 a6 a7 a8 a9) :
    ∀ (a0 : Nat) (a1 : Nat) (a2 : Int64) (a3 : Int64) (a4 : Int64) (a5 : Int64) (a6 : Int32) (a7 : Int64) (a8 : Int32) (a9 : St), I a0 a1 a2 a3 a4 a5 a6 a7 a8 a9 → ∃ n : Nat, wl_Opn_lookAtFooter_153 post rec83 n a0 a1 a2 a3 a4 a5 a6 a7 a8 a9 := by
  have key : ∀ (n : Nat) (a0 : Nat) (a1 : Nat) (a2 : Int64) (a3 : Int64) (a4 : Int64) (a5 : Int64) (a6 : Int32) (a7 : Int64) (a8 : Int32) (a9 : St), I a0 a1 a2 a3 a4 a5 a6 a7 a8 a9 → m a0 a1 a2 a3 a4 a5 a6 a7 a8 a9 < n → wl_Opn_lookAtFooter_153 post rec83 n a0 a1 a2 a3 a4 a5 a6 a7 a8 a9 := by
    intro n
    induction n with
    | zero => intro a0 a1 a2 a3 a4 a5 a6 a7 a8 a9 _ h; exact absurd h (Nat.not_lt_zero _)
    | succ n ih => intro a0 a1 a2 a3 a4 a5 a6 a7 a8 a9 h hm; exact step (wl_Opn_lookAtFooter_153 post rec83 n) a0 a1 a2 a3 a4 a5 a6 a7 a8 a9 h (fun b0 b1 b2 b3 b4 b5 b6 b7 b8 b9 hb hlt => ih b0 b1 b2 b3 b4 b5 b6 b7 b8 b9 hb (Nat.lt_of_lt_of_le hlt (Nat.le_of_lt_succ hm)))
  exact fun a0 a1 a2 a3 a4 a5 a6 a7 a8 a9 h => ⟨_, key _ a0 a1 a2 a3 a4 a5 a6 a7 a8 a9 h (Nat.lt_succ_self _)⟩
theorem lp_Opn_lookAtFooter_83 {post : Int32 → St → Prop} (I : Nat → Nat → Int64 → Int64 → Int64 → Int64 → Int32 → St → Prop) (m : Nat → Nat → Int64 → Int64 → Int64 → Int64 → Int32 → St → Nat)
    (step : ∀ (R : Nat → Nat → Int64 → Int64 → Int64 → Int64 → Int32 → St → Prop) (a0 : Nat) (a1 : Nat) (a2 : Int64) (a3 : Int64) (a4 : Int64) (a5 : Int64) (a6 : Int32) (a7 : St), I a0 a1 a2 a3 a4 a5 a6 a7 → (∀ (b0 : Nat) (b1 : Nat) (b2 : Int64) (b3 : Int64) (b4 : Int64) (b5 : Int64) (b6 : Int32) (b7 : St), I b0 b1 b2 b3 b4 b5 b6 b7 → m b0 b1 b2 b3 b4 b5 b6 b7 < m a0 a1 a2 a3 a4 a5 a6 a7 → R b0 b1 b2 b3 b4 b5 b6 b7) → j_Opn_lookAtFooter_83 post R a0 a1 a2 a3 a4 a5 a6 a7) :
    ∀ (a0 : Nat) (a1 : Nat) (a2 : Int64) (a3 : Int64) (a4 : Int64) (a5 : Int64) (a6 : Int32) (a7 : St), I a0 a1 a2 a3 a4 a5 a6 a7 → ∃ n : Nat, wl_Opn_lookAtFooter_83 post n a0 a1 a2 a3 a4 a5 a6 a7 := by
  have key : ∀ (n : Nat) (a0 : Nat) (a1 : Nat) (a2 : Int64) (a3 : Int64) (a4 : Int64) (a5 : Int64) (a6 : Int32) (a7 : St), I a0 a1 a2 a3 a4 a5 a6 a7 → m a0 a1 a2 a3 a4 a5 a6 a7 < n → wl_Opn_lookAtFooter_83 post n a0 a1 a2 a3 a4 a5 a6 a7 := by
    intro n
    induction n with
    | zero => intro a0 a1 a2 a3 a4 a5 a6 a7 _ h; exact absurd h (Nat.not_lt_zero _)
    | succ n ih => intro a0 a1 a2 a3 a4 a5 a6 a7 h hm; exact step (wl_Opn_lookAtFooter_83 post n) a0 a1 a2 a3 a4 a5 a6 a7 h (fun b0 b1 b2 b3 b4 b5 b6 b7 hb hlt => ih b0 b1 b2 b3 b4 b5 b6 b7 hb (Nat.lt_of_lt_of_le hlt (Nat.le_of_lt_succ hm)))
  exact fun a0 a1 a2 a3 a4 a5 a6 a7 h => ⟨_, key _ a0 a1 a2 a3 a4 a5 a6 a7 h (Nat.lt_succ_self _)⟩
theorem lp_Src_readSame_52 {post : Int32 → St → Prop} (I : Nat → Nat → Int32 → Int64 → Int32 → Int64 → Int32 → Int32 → St → Prop) (m : Nat → Nat → Int32 → Int64 → Int32 → Int64 → Int32 → Int32 → St → Nat)
    (step : ∀ (R : Nat → Nat → Int32 → Int64 → Int32 → Int64 → Int32 → Int32 → St → Prop) (a0 : Nat) (a1 : Nat) (a2 : Int32) (a3 : Int64) (a4 : Int32) (a5 : Int64) (a6 : Int32) (a7 : Int32) (a8 : St), I a0 a1 a2 a3 a4 a5 a6 a7 a8 → (∀ (b0 : Nat) (b1 : Nat) (b2 : Int32) (b3 : Int64) (b4 : Int32) (b5 : Int64) (b6 : Int32) (b7 : Int32) (b8 : St), I b0 b1 b2 b3 b4 b5 b6 b7 b8 → m b0 b1 b2 b3 b4 b5 b6 b7 b8 < m a0 a1 a2 a3 a4 a5 a6 a7 a8 → R b0 b1 b2 b3 b4 b5 b6 b7 b8) → j_Src_readSame_52 post R a0 a1 a2 a3 a4 a5 a6 a7 a8) :
    ∀ (a0 : Nat) (a1 : Nat) (a2 : Int32) (a3 : Int64) (a4 : Int32) (a5 : Int64) (a6 : Int32) (a7 : Int32) (a8 : St), I a0 a1 a2 a3 a4 a5 a6 a7 a8 → ∃ n : Nat, wl_Src_readSame_52 post n a0 a1 a2 a3 a4 a5 a6 a7 a8 := by
  have key : ∀ (n : Nat) (a0 : Nat) (a1 : Nat) (a2 : Int32) (a3 : Int64) (a4 : Int32) (a5 : Int64) (a6 : Int32) (a7 : Int32) (a8 : St), I a0 a1 a2 a3 a4 a5 a6 a7 a8 → m a0 a1 a2 a3 a4 a5 a6 a7 a8 < n → wl_Src_readSame_52 post n a0 a1 a2 a3 a4 a5 a6 a7 a8 := by
    intro n
    induction n with
    | zero => intro a0 a1 a2 a3 a4 a5 a6 a7 a8 _ h; exact absurd h (Nat.not_lt_zero _)
    | succ n ih => intro a0 a1 a2 a3 a4 a5 a6 a7 a8 h hm; exact step (wl_Src_readSame_52 post n) a0 a1 a2 a3 a4 a5 a6 a7 a8 h (fun b0 b1 b2 b3 b4 b5 b6 b7 b8 hb hlt => ih b0 b1 b2 b3 b4 b5 b6 b7 b8 hb (Nat.lt_of_lt_of_le hlt (Nat.le_of_lt_succ hm)))
  exact fun a0 a1 a2 a3 a4 a5 a6 a7 a8 h => ⟨_, key _ a0 a1 a2 a3 a4 a5 a6 a7 a8 h (Nat.lt_succ_self _)⟩
theorem lp_Src_bitsAt_8 {post : Int64 → St → Prop} (I : Nat → Int32 → Int32 → Int64 → Int32 → Int32 → St → Prop) (m : Nat → Int32 → Int32 → Int64 → Int32 → Int32 → St → Nat)
    (step : ∀ (R : Nat → Int32 → Int32 → Int64 → Int32 → Int32 → St → Prop) (a0 : Nat) (a1 : Int32) (a2 : Int32) (a3 : Int64) (a4 : Int32) (a5 : Int32) (a6 : St), I a0 a1 a2 a3 a4 a5 a6 → (∀ (b0 : Nat) (b1 : Int32) (b2 : Int32) (b3 : Int64) (b4 : Int32) (b5 : Int32) (b6 : St), I b0 b1 b2 b3 b4 b5 b6 → m b0 b1 b2 b3 b4 b5 b6 < m a0 a1 a2 a3 a4 a5 a6 → R b0 b1 b2 b3 b4 b5 b6) → j_Src_bitsAt_8 post R a0 a1 a2 a3 a4 a5 a6) :
    ∀ (a0 : Nat) (a1 : Int32) (a2 : Int32) (a3 : Int64) (a4 : Int32) (a5 : Int32) (a6 : St), I a0 a1 a2 a3 a4 a5 a6 → ∃ n : Nat, wl_Src_bitsAt_8 post n a0 a1 a2 a3 a4 a5 a6 := by
  have key : ∀ (n : Nat) (a0 : Nat) (a1 : Int32) (a2 : Int32) (a3 : Int64) (a4 : Int32) (a5 : Int32) (a6 : St), I a0 a1 a2 a3 a4 a5 a6 → m a0 a1 a2 a3 a4 a5 a6 < n → wl_Src_bitsAt_8 post n a0 a1 a2 a3 a4 a5 a6 := by
    intro n
    induction n with
    | zero => intro a0 a1 a2 a3 a4 a5 a6 _ h; exact absurd h (Nat.not_lt_zero _)
    | succ n ih => intro a0 a1 a2 a3 a4 a5 a6 h hm; exact step (wl_Src_bitsAt_8 post n) a0 a1 a2 a3 a4 a5 a6 h (fun b0 b1 b2 b3 b4 b5 b6 hb hlt => ih b0 b1 b2 b3 b4 b5 b6 hb (Nat.lt_of_lt_of_le hlt (Nat.le_of_lt_succ hm)))
  exact fun a0 a1 a2 a3 a4 a5 a6 h => ⟨_, key _ a0 a1 a2 a3 a4 a5 a6 h (Nat.lt_succ_self _)⟩
theorem lp_Src_readGroups_31 {post : Int32 → St → Prop} (I : Nat → Nat → Int32 → Int64 → Int32 → Int32 → Int32 → Int32 → St → Prop) (m : Nat → Nat → Int32 → Int64 → Int32 → Int32 → Int32 → Int32 → St → Nat)
    (step : ∀ (R : Nat → Nat → Int32 → Int64 → Int32 → Int32 → Int32 → Int32 → St → Prop) (a0 : Nat) (a1 : Nat) (a2 : Int32) (a3 : Int64) (a4 : Int32) (a5 : Int32) (a6 : Int32) (a7 : Int32) (a8 : St), I a0 a1 a2 a3 a4 a5 a6 a7 a8 → (∀ (b0 : Nat) (b1 : Nat) (b2 : Int32) (b3 : Int64) (b4 : Int32) (b5 : Int32) (b6 : Int32) (b7 : Int32) (b8 : St), I b0 b1 b2 b3 b4 b5 b6 b7 b8 → m b0 b1 b2 b3 b4 b5 b6 b7 b8 < m a0 a1 a2 a3 a4 a5 a6 a7 a8 → R b0 b1 b2 b3 b4 b5 b6 b7 b8) → j_Src_readGroups_31 post R a0 a1 a2 a3 a4 a5 a6 a7 a8) :
    ∀ (a0 : Nat) (a1 : Nat) (a2 : Int32) (a3 : Int64) (a4 : Int32) (a5 : Int32) (a6 : Int32) (a7 : Int32) (a8 : St), I a0 a1 a2 a3 a4 a5 a6 a7 a8 → ∃ n : Nat, wl_Src_readGroups_31 post n a0 a1 a2 a3 a4 a5 a6 a7 a8 := by
  have key : ∀ (n : Nat) (a0 : Nat) (a1 : Nat) (a2 : Int32) (a3 : Int64) (a4 : Int32) (a5 : Int32) (a6 : Int32) (a7 : Int32) (a8 : St), I a0 a1 a2 a3 a4 a5 a6 a7 a8 → m a0 a1 a2 a3 a4 a5 a6 a7 a8 < n → wl_Src_readGroups_31 post n a0 a1 a2 a3 a4 a5 a6 a7 a8 := by
    intro n
    induction n with
    | zero => intro a0 a1 a2 a3 a4 a5 a6 a7 a8 _ h; exact absurd h (Nat.not_lt_zero _)
    | succ n ih => intro a0 a1 a2 a3 a4 a5 a6 a7 a8 h hm; exact step (wl_Src_readGroups_31 post n) a0 a1 a2 a3 a4 a5 a6 a7 a8 h (fun b0 b1 b2 b3 b4 b5 b6 b7 b8 hb hlt => ih b0 b1 b2 b3 b4 b5 b6 b7 b8 hb (Nat.lt_of_lt_of_le hlt (Nat.le_of_lt_succ hm)))
  exact fun a0 a1 a2 a3 a4 a5 a6 a7 a8 h => ⟨_, key _ a0 a1 a2 a3 a4 a5 a6 a7 a8 h (Nat.lt_succ_self _)⟩
theorem lp_Src_readRuns_6 {post : St → Prop} (I : Nat → Nat → Int32 → Int32 → Int32 → Int32 → St → Prop) (m : Nat → Nat → Int32 → Int32 → Int32 → Int32 → St → Nat)
    (step : ∀ (R : Nat → Nat → Int32 → Int32 → Int32 → Int32 → St → Prop) (a0 : Nat) (a1 : Nat) (a2 : Int32) (a3 : Int32) (a4 : Int32) (a5 : Int32) (a6 : St), I a0 a1 a2 a3 a4 a5 a6 → (∀ (b0 : Nat) (b1 : Nat) (b2 : Int32) (b3 : Int32) (b4 : Int32) (b5 : Int32) (b6 : St), I b0 b1 b2 b3 b4 b5 b6 → m b0 b1 b2 b3 b4 b5 b6 < m a0 a1 a2 a3 a4 a5 a6 → R b0 b1 b2 b3 b4 b5 b6) → j_Src_readRuns_6 post R a0 a1 a2 a3 a4 a5 a6) :
    ∀ (a0 : Nat) (a1 : Nat) (a2 : Int32) (a3 : Int32) (a4 : Int32) (a5 : Int32) (a6 : St), I a0 a1 a2 a3 a4 a5 a6 → ∃ n : Nat, wl_Src_readRuns_6 post n a0 a1 a2 a3 a4 a5 a6 := by
  have key : ∀ (n : Nat) (a0 : Nat) (a1 : Nat) (a2 : Int32) (a3 : Int32) (a4 : Int32) (a5 : Int32) (a6 : St), I a0 a1 a2 a3 a4 a5 a6 → m a0 a1 a2 a3 a4 a5 a6 < n → wl_Src_readRuns_6 post n a0 a1 a2 a3 a4 a5 a6 := by
    intro n
    induction n with
    | zero => intro a0 a1 a2 a3 a4 a5 a6 _ h; exact absurd h (Nat.not_lt_zero _)
    | succ n ih => intro a0 a1 a2 a3 a4 a5 a6 h hm; exact step (wl_Src_readRuns_6 post n) a0 a1 a2 a3 a4 a5 a6 h (fun b0 b1 b2 b3 b4 b5 b6 hb hlt => ih b0 b1 b2 b3 b4 b5 b6 hb (Nat.lt_of_lt_of_le hlt (Nat.le_of_lt_succ hm)))
  exact fun a0 a1 a2 a3 a4 a5 a6 h => ⟨_, key _ a0 a1 a2 a3 a4 a5 a6 h (Nat.lt_succ_self _)⟩
theorem lp_Opn_readLevels_56 {post : St → Prop} (I : Nat → Nat → Int32 → Int32 → Int32 → St → Prop) (m : Nat → Nat → Int32 → Int32 → Int32 → St → Nat)
    (step : ∀ (R : Nat → Nat → Int32 → Int32 → Int32 → St → Prop) (a0 : Nat) (a1 : Nat) (a2 : Int32) (a3 : Int32) (a4 : Int32) (a5 : St), I a0 a1 a2 a3 a4 a5 → (∀ (b0 : Nat) (b1 : Nat) (b2 : Int32) (b3 : Int32) (b4 : Int32) (b5 : St), I b0 b1 b2 b3 b4 b5 → m b0 b1 b2 b3 b4 b5 < m a0 a1 a2 a3 a4 a5 → R b0 b1 b2 b3 b4 b5) → j_Opn_readLevels_56 post R a0 a1 a2 a3 a4 a5) :
    ∀ (a0 : Nat) (a1 : Nat) (a2 : Int32) (a3 : Int32) (a4 : Int32) (a5 : St), I a0 a1 a2 a3 a4 a5 → ∃ n : Nat, wl_Opn_readLevels_56 post n a0 a1 a2 a3 a4 a5 := by
  have key : ∀ (n : Nat) (a0 : Nat) (a1 : Nat) (a2 : Int32) (a3 : Int32) (a4 : Int32) (a5 : St), I a0 a1 a2 a3 a4 a5 → m a0 a1 a2 a3 a4 a5 < n → wl_Opn_readLevels_56 post n a0 a1 a2 a3 a4 a5 := by
    intro n
    induction n with
    | zero => intro a0 a1 a2 a3 a4 a5 _ h; exact absurd h (Nat.not_lt_zero _)
    | succ n ih => intro a0 a1 a2 a3 a4 a5 h hm; exact step (wl_Opn_readLevels_56 post n) a0 a1 a2 a3 a4 a5 h (fun b0 b1 b2 b3 b4 b5 hb hlt => ih b0 b1 b2 b3 b4 b5 hb (Nat.lt_of_lt_of_le hlt (Nat.le_of_lt_succ hm)))
  exact fun a0 a1 a2 a3 a4 a5 h => ⟨_, key _ a0 a1 a2 a3 a4 a5 h (Nat.lt_succ_self _)⟩
theorem lp_Opn_countNulls_5 {post : Int32 → St → Prop} (I : Nat → Int32 → Int32 → Int32 → Int32 → St → Prop) (m : Nat → Int32 → Int32 → Int32 → Int32 → St → Nat)
    (step : ∀ (R : Nat → Int32 → Int32 → Int32 → Int32 → St → Prop) (a0 : Nat) (a1 : Int32) (a2 : Int32) (a3 : Int32) (a4 : Int32) (a5 : St), I a0 a1 a2 a3 a4 a5 → (∀ (b0 : Nat) (b1 : Int32) (b2 : Int32) (b3 : Int32) (b4 : Int32) (b5 : St), I b0 b1 b2 b3 b4 b5 → m b0 b1 b2 b3 b4 b5 < m a0 a1 a2 a3 a4 a5 → R b0 b1 b2 b3 b4 b5) → j_Opn_countNulls_5 post R a0 a1 a2 a3 a4 a5) :
    ∀ (a0 : Nat) (a1 : Int32) (a2 : Int32) (a3 : Int32) (a4 : Int32) (a5 : St), I a0 a1 a2 a3 a4 a5 → ∃ n : Nat, wl_Opn_countNulls_5 post n a0 a1 a2 a3 a4 a5 := by
  have key : ∀ (n : Nat) (a0 : Nat) (a1 : Int32) (a2 : Int32) (a3 : Int32) (a4 : Int32) (a5 : St), I a0 a1 a2 a3 a4 a5 → m a0 a1 a2 a3 a4 a5 < n → wl_Opn_countNulls_5 post n a0 a1 a2 a3 a4 a5 := by
    intro n
    induction n with
    | zero => intro a0 a1 a2 a3 a4 a5 _ h; exact absurd h (Nat.not_lt_zero _)
    | succ n ih => intro a0 a1 a2 a3 a4 a5 h hm; exact step (wl_Opn_countNulls_5 post n) a0 a1 a2 a3 a4 a5 h (fun b0 b1 b2 b3 b4 b5 hb hlt => ih b0 b1 b2 b3 b4 b5 hb (Nat.lt_of_lt_of_le hlt (Nat.le_of_lt_succ hm)))
  exact fun a0 a1 a2 a3 a4 a5 h => ⟨_, key _ a0 a1 a2 a3 a4 a5 h (Nat.lt_succ_self _)⟩
theorem lp_Opn_readBools_26 {post : St → Prop} (I : Nat → Int32 → Int32 → Int32 → St → Prop) (m : Nat → Int32 → Int32 → Int32 → St → Nat)
    (step : ∀ (R : Nat → Int32 → Int32 → Int32 → St → Prop) (a0 : Nat) (a1 : Int32) (a2 : Int32) (a3 : Int32) (a4 : St), I a0 a1 a2 a3 a4 → (∀ (b0 : Nat) (b1 : Int32) (b2 : Int32) (b3 : Int32) (b4 : St), I b0 b1 b2 b3 b4 → m b0 b1 b2 b3 b4 < m a0 a1 a2 a3 a4 → R b0 b1 b2 b3 b4) → j_Opn_readBools_26 post R a0 a1 a2 a3 a4) :
    ∀ (a0 : Nat) (a1 : Int32) (a2 : Int32) (a3 : Int32) (a4 : St), I a0 a1 a2 a3 a4 → ∃ n : Nat, wl_Opn_readBools_26 post n a0 a1 a2 a3 a4 := by
  have key : ∀ (n : Nat) (a0 : Nat) (a1 : Int32) (a2 : Int32) (a3 : Int32) (a4 : St), I a0 a1 a2 a3 a4 → m a0 a1 a2 a3 a4 < n → wl_Opn_readBools_26 post n a0 a1 a2 a3 a4 := by
    intro n
    induction n with
    | zero => intro a0 a1 a2 a3 a4 _ h; exact absurd h (Nat.not_lt_zero _)
    | succ n ih => intro a0 a1 a2 a3 a4 h hm; exact step (wl_Opn_readBools_26 post n) a0 a1 a2 a3 a4 h (fun b0 b1 b2 b3 b4 hb hlt => ih b0 b1 b2 b3 b4 hb (Nat.lt_of_lt_of_le hlt (Nat.le_of_lt_succ hm)))
  exact fun a0 a1 a2 a3 a4 h => ⟨_, key _ a0 a1 a2 a3 a4 h (Nat.lt_succ_self _)⟩
theorem lp_Opn_readPlain_6 {post : St → Prop} (I : Nat → Int32 → Nat → Int32 → Int32 → Int32 → Int32 → St → Prop) (m : Nat → Int32 → Nat → Int32 → Int32 → Int32 → Int32 → St → Nat)
    (step : ∀ (R : Nat → Int32 → Nat → Int32 → Int32 → Int32 → Int32 → St → Prop) (a0 : Nat) (a1 : Int32) (a2 : Nat) (a3 : Int32) (a4 : Int32) (a5 : Int32) (a6 : Int32) (a7 : St), I a0 a1 a2 a3 a4 a5 a6 a7 → (∀ (b0 : Nat) (b1 : Int32) (b2 : Nat) (b3 : Int32) (b4 : Int32) (b5 : Int32) (b6 : Int32) (b7 : St), I b0 b1 b2 b3 b4 b5 b6 b7 → m b0 b1 b2 b3 b4 b5 b6 b7 < m a0 a1 a2 a3 a4 a5 a6 a7 → R b0 b1 b2 b3 b4 b5 b6 b7) → j_Opn_readPlain_6 post R a0 a1 a2 a3 a4 a5 a6 a7) :
    ∀ (a0 : Nat) (a1 : Int32) (a2 : Nat) (a3 : Int32) (a4 : Int32) (a5 : Int32) (a6 : Int32) (a7 : St), I a0 a1 a2 a3 a4 a5 a6 a7 → ∃ n : Nat, wl_Opn_readPlain_6 post n a0 a1 a2 a3 a4 a5 a6 a7 := by
  have key : ∀ (n : Nat) (a0 : Nat) (a1 : Int32) (a2 : Nat) (a3 : Int32) (a4 : Int32) (a5 : Int32) (a6 : Int32) (a7 : St), I a0 a1 a2 a3 a4 a5 a6 a7 → m a0 a1 a2 a3 a4 a5 a6 a7 < n → wl_Opn_readPlain_6 post n a0 a1 a2 a3 a4 a5 a6 a7 := by
    intro n
    induction n with
    | zero => intro a0 a1 a2 a3 a4 a5 a6 a7 _ h; exact absurd h (Nat.not_lt_zero _)
    | succ n ih => intro a0 a1 a2 a3 a4 a5 a6 a7 h hm; exact step (wl_Opn_readPlain_6 post n) a0 a1 a2 a3 a4 a5 a6 a7 h (fun b0 b1 b2 b3 b4 b5 b6 b7 hb hlt => ih b0 b1 b2 b3 b4 b5 b6 b7 hb (Nat.lt_of_lt_of_le hlt (Nat.le_of_lt_succ hm)))
  exact fun a0 a1 a2 a3 a4 a5 a6 a7 h => ⟨_, key _ a0 a1 a2 a3 a4 a5 a6 a7 h (Nat.lt_succ_self _)⟩
theorem lp_Opn_readDictionary_114 {post : St → Prop} (I : Nat → Int32 → Int32 → Int64 → Int32 → Int32 → Int32 → St → Prop) (m : Nat → Int32 → Int32 → Int64 → Int32 → Int32 → Int32 → St → Nat)
    (step : ∀ (R : Nat → Int32 → Int32 → Int64 → Int32 → Int32 → Int32 → St → Prop) (a0 : Nat) (a1 : Int32) (a2 : Int32) (a3 : Int64) (a4 : Int32) (a5 : Int32) (a6 : Int32) (a7 : St), I a0 a1 a2 a3 a4 a5 a6 a7 → (∀ (b0 : Nat) (b1 : Int32) (b2 : Int32) (b3 : Int64) (b4 : Int32) (b5 : Int32) (b6 : Int32) (b7 : St), I b0 b1 b2 b3 b4 b5 b6 b7 → m b0 b1 b2 b3 b4 b5 b6 b7 < m a0 a1 a2 a3 a4 a5 a6 a7 → R b0 b1 b2 b3 b4 b5 b6 b7) → j_Opn_readDictionary_114 post R a0 a1 a2 a3 a4 a5 a6 a7) :
    ∀ (a0 : Nat) (a1 : Int32) (a2 : Int32) (a3 : Int64) (a4 : Int32) (a5 : Int32) (a6 : Int32) (a7 : St), I a0 a1 a2 a3 a4 a5 a6 a7 → ∃ n : Nat, wl_Opn_readDictionary_114 post n a0 a1 a2 a3 a4 a5 a6 a7 := by
  have key : ∀ (n : Nat) (a0 : Nat) (a1 : Int32) (a2 : Int32) (a3 : Int64) (a4 : Int32) (a5 : Int32) (a6 : Int32) (a7 : St), I a0 a1 a2 a3 a4 a5 a6 a7 → m a0 a1 a2 a3 a4 a5 a6 a7 < n → wl_Opn_readDictionary_114 post n a0 a1 a2 a3 a4 a5 a6 a7 := by
    intro n
    induction n with
    | zero => intro a0 a1 a2 a3 a4 a5 a6 a7 _ h; exact absurd h (Nat.not_lt_zero _)
    | succ n ih => intro a0 a1 a2 a3 a4 a5 a6 a7 h hm; exact step (wl_Opn_readDictionary_114 post n) a0 a1 a2 a3 a4 a5 a6 a7 h (fun b0 b1 b2 b3 b4 b5 b6 b7 hb hlt => ih b0 b1 b2 b3 b4 b5 b6 b7 hb (Nat.lt_of_lt_of_le hlt (Nat.le_of_lt_succ hm)))
  exact fun a0 a1 a2 a3 a4 a5 a6 a7 h => ⟨_, key _ a0 a1 a2 a3 a4 a5 a6 a7 h (Nat.lt_succ_self _)⟩
theorem lp_Opn_countTexts_2 {post : St → Prop} (I : Nat → Int32 → Int32 → St → Prop) (m : Nat → Int32 → Int32 → St → Nat)
    (step : ∀ (R : Nat → Int32 → Int32 → St → Prop) (a0 : Nat) (a1 : Int32) (a2 : Int32) (a3 : St), I a0 a1 a2 a3 → (∀ (b0 : Nat) (b1 : Int32) (b2 : Int32) (b3 : St), I b0 b1 b2 b3 → m b0 b1 b2 b3 < m a0 a1 a2 a3 → R b0 b1 b2 b3) → j_Opn_countTexts_2 post R a0 a1 a2 a3) :
    ∀ (a0 : Nat) (a1 : Int32) (a2 : Int32) (a3 : St), I a0 a1 a2 a3 → ∃ n : Nat, wl_Opn_countTexts_2 post n a0 a1 a2 a3 := by
  have key : ∀ (n : Nat) (a0 : Nat) (a1 : Int32) (a2 : Int32) (a3 : St), I a0 a1 a2 a3 → m a0 a1 a2 a3 < n → wl_Opn_countTexts_2 post n a0 a1 a2 a3 := by
    intro n
    induction n with
    | zero => intro a0 a1 a2 a3 _ h; exact absurd h (Nat.not_lt_zero _)
    | succ n ih => intro a0 a1 a2 a3 h hm; exact step (wl_Opn_countTexts_2 post n) a0 a1 a2 a3 h (fun b0 b1 b2 b3 hb hlt => ih b0 b1 b2 b3 hb (Nat.lt_of_lt_of_le hlt (Nat.le_of_lt_succ hm)))
  exact fun a0 a1 a2 a3 h => ⟨_, key _ a0 a1 a2 a3 h (Nat.lt_succ_self _)⟩
theorem lp_Src_readBlock_115 {post : St → Prop} {rec75 : Nat → Nat → Int32 → Int32 → Int64 → Int32 → St → Prop} (I : Nat → Nat → Int32 → Int32 → Int64 → Int32 → Int32 → Int32 → Int32 → St → Prop) (m : Nat → Nat → Int32 → Int32 → Int64 → Int32 → Int32 → Int32 → Int32 → St → Nat)
    (step : ∀ (R : Nat → Nat → Int32 → Int32 → Int64 → Int32 → Int32 → Int32 → Int32 → St → Prop) (a0 : Nat) (a1 : Nat) (a2 : Int32) (a3 : Int32) (a4 : Int64) (a5 : Int32) (a6 : Int32) (a7 : Int32) (a8 : Int32) (a9 : St), I a0 a1 a2 a3 a4 a5 a6 a7 a8 a9 → (∀ (b0 : Nat) (b1 : Nat) (b2 : Int32) (b3 : Int32) (b4 : Int64) (b5 : Int32) (b6 : Int32) (b7 : Int32) (b8 : Int32) (b9 : St), I b0 b1 b2 b3 b4 b5 b6 b7 b8 b9 → m b0 b1 b2 b3 b4 b5 b6 b7 b8 b9 < m a0 a1 a2 a3 a4 a5 a6 a7 a8 a9 → R b0 b1 b2 b3 b4 b5 b6 b7 b8 b9) → j_Src_readBlock_115 post rec75 R a0 a1 a2 a3 a4 a5 a6 a7 a8 a9) :
    ∀ (a0 : Nat) (a1 : Nat) (a2 : Int32) (a3 : Int32) (a4 : Int64) (a5 : Int32) (a6 : Int32) (a7 : Int32) (a8 : Int32) (a9 : St), I a0 a1 a2 a3 a4 a5 a6 a7 a8 a9 → ∃ n : Nat, wl_Src_readBlock_115 post rec75 n a0 a1 a2 a3 a4 a5 a6 a7 a8 a9 := by
  have key : ∀ (n : Nat) (a0 : Nat) (a1 : Nat) (a2 : Int32) (a3 : Int32) (a4 : Int64) (a5 : Int32) (a6 : Int32) (a7 : Int32) (a8 : Int32) (a9 : St), I a0 a1 a2 a3 a4 a5 a6 a7 a8 a9 → m a0 a1 a2 a3 a4 a5 a6 a7 a8 a9 < n → wl_Src_readBlock_115 post rec75 n a0 a1 a2 a3 a4 a5 a6 a7 a8 a9 := by
    intro n
    induction n with
    | zero => intro a0 a1 a2 a3 a4 a5 a6 a7 a8 a9 _ h; exact absurd h (Nat.not_lt_zero _)
    | succ n ih => intro a0 a1 a2 a3 a4 a5 a6 a7 a8 a9 h hm; exact step (wl_Src_readBlock_115 post rec75 n) a0 a1 a2 a3 a4 a5 a6 a7 a8 a9 h (fun b0 b1 b2 b3 b4 b5 b6 b7 b8 b9 hb hlt => ih b0 b1 b2 b3 b4 b5 b6 b7 b8 b9 hb (Nat.lt_of_lt_of_le hlt (Nat.le_of_lt_succ hm)))
  exact fun a0 a1 a2 a3 a4 a5 a6 a7 a8 a9 h => ⟨_, key _ a0 a1 a2 a3 a4 a5 a6 a7 a8 a9 h (Nat.lt_succ_self _)⟩
theorem lp_Src_readBlock_75 {post : St → Prop} (I : Nat → Nat → Int32 → Int32 → Int64 → Int32 → St → Prop) (m : Nat → Nat → Int32 → Int32 → Int64 → Int32 → St → Nat)
    (step : ∀ (R : Nat → Nat → Int32 → Int32 → Int64 → Int32 → St → Prop) (a0 : Nat) (a1 : Nat) (a2 : Int32) (a3 : Int32) (a4 : Int64) (a5 : Int32) (a6 : St), I a0 a1 a2 a3 a4 a5 a6 → (∀ (b0 : Nat) (b1 : Nat) (b2 : Int32) (b3 : Int32) (b4 : Int64) (b5 : Int32) (b6 : St), I b0 b1 b2 b3 b4 b5 b6 → m b0 b1 b2 b3 b4 b5 b6 < m a0 a1 a2 a3 a4 a5 a6 → R b0 b1 b2 b3 b4 b5 b6) → j_Src_readBlock_75 post R a0 a1 a2 a3 a4 a5 a6) :
    ∀ (a0 : Nat) (a1 : Nat) (a2 : Int32) (a3 : Int32) (a4 : Int64) (a5 : Int32) (a6 : St), I a0 a1 a2 a3 a4 a5 a6 → ∃ n : Nat, wl_Src_readBlock_75 post n a0 a1 a2 a3 a4 a5 a6 := by
  have key : ∀ (n : Nat) (a0 : Nat) (a1 : Nat) (a2 : Int32) (a3 : Int32) (a4 : Int64) (a5 : Int32) (a6 : St), I a0 a1 a2 a3 a4 a5 a6 → m a0 a1 a2 a3 a4 a5 a6 < n → wl_Src_readBlock_75 post n a0 a1 a2 a3 a4 a5 a6 := by
    intro n
    induction n with
    | zero => intro a0 a1 a2 a3 a4 a5 a6 _ h; exact absurd h (Nat.not_lt_zero _)
    | succ n ih => intro a0 a1 a2 a3 a4 a5 a6 h hm; exact step (wl_Src_readBlock_75 post n) a0 a1 a2 a3 a4 a5 a6 h (fun b0 b1 b2 b3 b4 b5 b6 hb hlt => ih b0 b1 b2 b3 b4 b5 b6 hb (Nat.lt_of_lt_of_le hlt (Nat.le_of_lt_succ hm)))
  exact fun a0 a1 a2 a3 a4 a5 a6 h => ⟨_, key _ a0 a1 a2 a3 a4 a5 a6 h (Nat.lt_succ_self _)⟩
theorem lp_Src_readBlock_12 {post : St → Prop} (I : Nat → Nat → Int32 → Int32 → Int64 → Int32 → St → Prop) (m : Nat → Nat → Int32 → Int32 → Int64 → Int32 → St → Nat)
    (step : ∀ (R : Nat → Nat → Int32 → Int32 → Int64 → Int32 → St → Prop) (a0 : Nat) (a1 : Nat) (a2 : Int32) (a3 : Int32) (a4 : Int64) (a5 : Int32) (a6 : St), I a0 a1 a2 a3 a4 a5 a6 → (∀ (b0 : Nat) (b1 : Nat) (b2 : Int32) (b3 : Int32) (b4 : Int64) (b5 : Int32) (b6 : St), I b0 b1 b2 b3 b4 b5 b6 → m b0 b1 b2 b3 b4 b5 b6 < m a0 a1 a2 a3 a4 a5 a6 → R b0 b1 b2 b3 b4 b5 b6) → j_Src_readBlock_12 post R a0 a1 a2 a3 a4 a5 a6) :
    ∀ (a0 : Nat) (a1 : Nat) (a2 : Int32) (a3 : Int32) (a4 : Int64) (a5 : Int32) (a6 : St), I a0 a1 a2 a3 a4 a5 a6 → ∃ n : Nat, wl_Src_readBlock_12 post n a0 a1 a2 a3 a4 a5 a6 := by
  have key : ∀ (n : Nat) (a0 : Nat) (a1 : Nat) (a2 : Int32) (a3 : Int32) (a4 : Int64) (a5 : Int32) (a6 : St), I a0 a1 a2 a3 a4 a5 a6 → m a0 a1 a2 a3 a4 a5 a6 < n → wl_Src_readBlock_12 post n a0 a1 a2 a3 a4 a5 a6 := by
    intro n
    induction n with
    | zero => intro a0 a1 a2 a3 a4 a5 a6 _ h; exact absurd h (Nat.not_lt_zero _)
    | succ n ih => intro a0 a1 a2 a3 a4 a5 a6 h hm; exact step (wl_Src_readBlock_12 post n) a0 a1 a2 a3 a4 a5 a6 h (fun b0 b1 b2 b3 b4 b5 b6 hb hlt => ih b0 b1 b2 b3 b4 b5 b6 hb (Nat.lt_of_lt_of_le hlt (Nat.le_of_lt_succ hm)))
  exact fun a0 a1 a2 a3 a4 a5 a6 h => ⟨_, key _ a0 a1 a2 a3 a4 a5 a6 h (Nat.lt_succ_self _)⟩
theorem lp_Src_readCode_72 {post : St → Prop} (I : Nat → Nat → Int32 → Int32 → Int32 → Int64 → Int32 → St → Prop) (m : Nat → Nat → Int32 → Int32 → Int32 → Int64 → Int32 → St → Nat)
    (step : ∀ (R : Nat → Nat → Int32 → Int32 → Int32 → Int64 → Int32 → St → Prop) (a0 : Nat) (a1 : Nat) (a2 : Int32) (a3 : Int32) (a4 : Int32) (a5 : Int64) (a6 : Int32) (a7 : St), I a0 a1 a2 a3 a4 a5 a6 a7 → (∀ (b0 : Nat) (b1 : Nat) (b2 : Int32) (b3 : Int32) (b4 : Int32) (b5 : Int64) (b6 : Int32) (b7 : St), I b0 b1 b2 b3 b4 b5 b6 b7 → m b0 b1 b2 b3 b4 b5 b6 b7 < m a0 a1 a2 a3 a4 a5 a6 a7 → R b0 b1 b2 b3 b4 b5 b6 b7) → j_Src_readCode_72 post R a0 a1 a2 a3 a4 a5 a6 a7) :
    ∀ (a0 : Nat) (a1 : Nat) (a2 : Int32) (a3 : Int32) (a4 : Int32) (a5 : Int64) (a6 : Int32) (a7 : St), I a0 a1 a2 a3 a4 a5 a6 a7 → ∃ n : Nat, wl_Src_readCode_72 post n a0 a1 a2 a3 a4 a5 a6 a7 := by
  have key : ∀ (n : Nat) (a0 : Nat) (a1 : Nat) (a2 : Int32) (a3 : Int32) (a4 : Int32) (a5 : Int64) (a6 : Int32) (a7 : St), I a0 a1 a2 a3 a4 a5 a6 a7 → m a0 a1 a2 a3 a4 a5 a6 a7 < n → wl_Src_readCode_72 post n a0 a1 a2 a3 a4 a5 a6 a7 := by
    intro n
    induction n with
    | zero => intro a0 a1 a2 a3 a4 a5 a6 a7 _ h; exact absurd h (Nat.not_lt_zero _)
    | succ n ih => intro a0 a1 a2 a3 a4 a5 a6 a7 h hm; exact step (wl_Src_readCode_72 post n) a0 a1 a2 a3 a4 a5 a6 a7 h (fun b0 b1 b2 b3 b4 b5 b6 b7 hb hlt => ih b0 b1 b2 b3 b4 b5 b6 b7 hb (Nat.lt_of_lt_of_le hlt (Nat.le_of_lt_succ hm)))
  exact fun a0 a1 a2 a3 a4 a5 a6 a7 h => ⟨_, key _ a0 a1 a2 a3 a4 a5 a6 a7 h (Nat.lt_succ_self _)⟩
theorem lp_Opn_readTexts_55 {post : St → Prop} (I : Nat → Int32 → St → Prop) (m : Nat → Int32 → St → Nat)
    (step : ∀ (R : Nat → Int32 → St → Prop) (a0 : Nat) (a1 : Int32) (a2 : St), I a0 a1 a2 → (∀ (b0 : Nat) (b1 : Int32) (b2 : St), I b0 b1 b2 → m b0 b1 b2 < m a0 a1 a2 → R b0 b1 b2) → j_Opn_readTexts_55 post R a0 a1 a2) :
    ∀ (a0 : Nat) (a1 : Int32) (a2 : St), I a0 a1 a2 → ∃ n : Nat, wl_Opn_readTexts_55 post n a0 a1 a2 := by
  have key : ∀ (n : Nat) (a0 : Nat) (a1 : Int32) (a2 : St), I a0 a1 a2 → m a0 a1 a2 < n → wl_Opn_readTexts_55 post n a0 a1 a2 := by
    intro n
    induction n with
    | zero => intro a0 a1 a2 _ h; exact absurd h (Nat.not_lt_zero _)
    | succ n ih => intro a0 a1 a2 h hm; exact step (wl_Opn_readTexts_55 post n) a0 a1 a2 h (fun b0 b1 b2 hb hlt => ih b0 b1 b2 hb (Nat.lt_of_lt_of_le hlt (Nat.le_of_lt_succ hm)))
  exact fun a0 a1 a2 h => ⟨_, key _ a0 a1 a2 h (Nat.lt_succ_self _)⟩
theorem lp_Opn_readTexts_18 {post : St → Prop} (I : Nat → Int32 → St → Prop) (m : Nat → Int32 → St → Nat)
    (step : ∀ (R : Nat → Int32 → St → Prop) (a0 : Nat) (a1 : Int32) (a2 : St), I a0 a1 a2 → (∀ (b0 : Nat) (b1 : Int32) (b2 : St), I b0 b1 b2 → m b0 b1 b2 < m a0 a1 a2 → R b0 b1 b2) → j_Opn_readTexts_18 post R a0 a1 a2) :
    ∀ (a0 : Nat) (a1 : Int32) (a2 : St), I a0 a1 a2 → ∃ n : Nat, wl_Opn_readTexts_18 post n a0 a1 a2 := by
  have key : ∀ (n : Nat) (a0 : Nat) (a1 : Int32) (a2 : St), I a0 a1 a2 → m a0 a1 a2 < n → wl_Opn_readTexts_18 post n a0 a1 a2 := by
    intro n
    induction n with
    | zero => intro a0 a1 a2 _ h; exact absurd h (Nat.not_lt_zero _)
    | succ n ih => intro a0 a1 a2 h hm; exact step (wl_Opn_readTexts_18 post n) a0 a1 a2 h (fun b0 b1 b2 hb hlt => ih b0 b1 b2 hb (Nat.lt_of_lt_of_le hlt (Nat.le_of_lt_succ hm)))
  exact fun a0 a1 a2 h => ⟨_, key _ a0 a1 a2 h (Nat.lt_succ_self _)⟩
theorem lp_Opn_readTextsInParts_36 {post : St → Prop} (I : Nat → Int64 → Int32 → St → Prop) (m : Nat → Int64 → Int32 → St → Nat)
    (step : ∀ (R : Nat → Int64 → Int32 → St → Prop) (a0 : Nat) (a1 : Int64) (a2 : Int32) (a3 : St), I a0 a1 a2 a3 → (∀ (b0 : Nat) (b1 : Int64) (b2 : Int32) (b3 : St), I b0 b1 b2 b3 → m b0 b1 b2 b3 < m a0 a1 a2 a3 → R b0 b1 b2 b3) → j_Opn_readTextsInParts_36 post R a0 a1 a2 a3) :
    ∀ (a0 : Nat) (a1 : Int64) (a2 : Int32) (a3 : St), I a0 a1 a2 a3 → ∃ n : Nat, wl_Opn_readTextsInParts_36 post n a0 a1 a2 a3 := by
  have key : ∀ (n : Nat) (a0 : Nat) (a1 : Int64) (a2 : Int32) (a3 : St), I a0 a1 a2 a3 → m a0 a1 a2 a3 < n → wl_Opn_readTextsInParts_36 post n a0 a1 a2 a3 := by
    intro n
    induction n with
    | zero => intro a0 a1 a2 a3 _ h; exact absurd h (Nat.not_lt_zero _)
    | succ n ih => intro a0 a1 a2 a3 h hm; exact step (wl_Opn_readTextsInParts_36 post n) a0 a1 a2 a3 h (fun b0 b1 b2 b3 hb hlt => ih b0 b1 b2 b3 hb (Nat.lt_of_lt_of_le hlt (Nat.le_of_lt_succ hm)))
  exact fun a0 a1 a2 a3 h => ⟨_, key _ a0 a1 a2 a3 h (Nat.lt_succ_self _)⟩
theorem lp_Opn_readValues_85 {post : St → Prop} (I : Nat → Int32 → Int32 → Int32 → Int32 → St → Prop) (m : Nat → Int32 → Int32 → Int32 → Int32 → St → Nat)
    (step : ∀ (R : Nat → Int32 → Int32 → Int32 → Int32 → St → Prop) (a0 : Nat) (a1 : Int32) (a2 : Int32) (a3 : Int32) (a4 : Int32) (a5 : St), I a0 a1 a2 a3 a4 a5 → (∀ (b0 : Nat) (b1 : Int32) (b2 : Int32) (b3 : Int32) (b4 : Int32) (b5 : St), I b0 b1 b2 b3 b4 b5 → m b0 b1 b2 b3 b4 b5 < m a0 a1 a2 a3 a4 a5 → R b0 b1 b2 b3 b4 b5) → j_Opn_readValues_85 post R a0 a1 a2 a3 a4 a5) :
    ∀ (a0 : Nat) (a1 : Int32) (a2 : Int32) (a3 : Int32) (a4 : Int32) (a5 : St), I a0 a1 a2 a3 a4 a5 → ∃ n : Nat, wl_Opn_readValues_85 post n a0 a1 a2 a3 a4 a5 := by
  have key : ∀ (n : Nat) (a0 : Nat) (a1 : Int32) (a2 : Int32) (a3 : Int32) (a4 : Int32) (a5 : St), I a0 a1 a2 a3 a4 a5 → m a0 a1 a2 a3 a4 a5 < n → wl_Opn_readValues_85 post n a0 a1 a2 a3 a4 a5 := by
    intro n
    induction n with
    | zero => intro a0 a1 a2 a3 a4 a5 _ h; exact absurd h (Nat.not_lt_zero _)
    | succ n ih => intro a0 a1 a2 a3 a4 a5 h hm; exact step (wl_Opn_readValues_85 post n) a0 a1 a2 a3 a4 a5 h (fun b0 b1 b2 b3 b4 b5 hb hlt => ih b0 b1 b2 b3 b4 b5 hb (Nat.lt_of_lt_of_le hlt (Nat.le_of_lt_succ hm)))
  exact fun a0 a1 a2 a3 a4 a5 h => ⟨_, key _ a0 a1 a2 a3 a4 a5 h (Nat.lt_succ_self _)⟩
theorem lp_Opn_checkBounds_36 {post : St → Prop} (I : Nat → Int32 → Int32 → Int64 → Int64 → Int32 → St → Prop) (m : Nat → Int32 → Int32 → Int64 → Int64 → Int32 → St → Nat)
    (step : ∀ (R : Nat → Int32 → Int32 → Int64 → Int64 → Int32 → St → Prop) (a0 : Nat) (a1 : Int32) (a2 : Int32) (a3 : Int64) (a4 : Int64) (a5 : Int32) (a6 : St), I a0 a1 a2 a3 a4 a5 a6 → (∀ (b0 : Nat) (b1 : Int32) (b2 : Int32) (b3 : Int64) (b4 : Int64) (b5 : Int32) (b6 : St), I b0 b1 b2 b3 b4 b5 b6 → m b0 b1 b2 b3 b4 b5 b6 < m a0 a1 a2 a3 a4 a5 a6 → R b0 b1 b2 b3 b4 b5 b6) → j_Opn_checkBounds_36 post R a0 a1 a2 a3 a4 a5 a6) :
    ∀ (a0 : Nat) (a1 : Int32) (a2 : Int32) (a3 : Int64) (a4 : Int64) (a5 : Int32) (a6 : St), I a0 a1 a2 a3 a4 a5 a6 → ∃ n : Nat, wl_Opn_checkBounds_36 post n a0 a1 a2 a3 a4 a5 a6 := by
  have key : ∀ (n : Nat) (a0 : Nat) (a1 : Int32) (a2 : Int32) (a3 : Int64) (a4 : Int64) (a5 : Int32) (a6 : St), I a0 a1 a2 a3 a4 a5 a6 → m a0 a1 a2 a3 a4 a5 a6 < n → wl_Opn_checkBounds_36 post n a0 a1 a2 a3 a4 a5 a6 := by
    intro n
    induction n with
    | zero => intro a0 a1 a2 a3 a4 a5 a6 _ h; exact absurd h (Nat.not_lt_zero _)
    | succ n ih => intro a0 a1 a2 a3 a4 a5 a6 h hm; exact step (wl_Opn_checkBounds_36 post n) a0 a1 a2 a3 a4 a5 a6 h (fun b0 b1 b2 b3 b4 b5 b6 hb hlt => ih b0 b1 b2 b3 b4 b5 b6 hb (Nat.lt_of_lt_of_le hlt (Nat.le_of_lt_succ hm)))
  exact fun a0 a1 a2 a3 a4 a5 a6 h => ⟨_, key _ a0 a1 a2 a3 a4 a5 a6 h (Nat.lt_succ_self _)⟩
theorem lp_Opn_defOfRepeated_14 {post : Int32 → St → Prop} (I : Nat → Int32 → Int32 → Nat → Int32 → Int32 → St → Prop) (m : Nat → Int32 → Int32 → Nat → Int32 → Int32 → St → Nat)
    (step : ∀ (R : Nat → Int32 → Int32 → Nat → Int32 → Int32 → St → Prop) (a0 : Nat) (a1 : Int32) (a2 : Int32) (a3 : Nat) (a4 : Int32) (a5 : Int32) (a6 : St), I a0 a1 a2 a3 a4 a5 a6 → (∀ (b0 : Nat) (b1 : Int32) (b2 : Int32) (b3 : Nat) (b4 : Int32) (b5 : Int32) (b6 : St), I b0 b1 b2 b3 b4 b5 b6 → m b0 b1 b2 b3 b4 b5 b6 < m a0 a1 a2 a3 a4 a5 a6 → R b0 b1 b2 b3 b4 b5 b6) → j_Opn_defOfRepeated_14 post R a0 a1 a2 a3 a4 a5 a6) :
    ∀ (a0 : Nat) (a1 : Int32) (a2 : Int32) (a3 : Nat) (a4 : Int32) (a5 : Int32) (a6 : St), I a0 a1 a2 a3 a4 a5 a6 → ∃ n : Nat, wl_Opn_defOfRepeated_14 post n a0 a1 a2 a3 a4 a5 a6 := by
  have key : ∀ (n : Nat) (a0 : Nat) (a1 : Int32) (a2 : Int32) (a3 : Nat) (a4 : Int32) (a5 : Int32) (a6 : St), I a0 a1 a2 a3 a4 a5 a6 → m a0 a1 a2 a3 a4 a5 a6 < n → wl_Opn_defOfRepeated_14 post n a0 a1 a2 a3 a4 a5 a6 := by
    intro n
    induction n with
    | zero => intro a0 a1 a2 a3 a4 a5 a6 _ h; exact absurd h (Nat.not_lt_zero _)
    | succ n ih => intro a0 a1 a2 a3 a4 a5 a6 h hm; exact step (wl_Opn_defOfRepeated_14 post n) a0 a1 a2 a3 a4 a5 a6 h (fun b0 b1 b2 b3 b4 b5 b6 hb hlt => ih b0 b1 b2 b3 b4 b5 b6 hb (Nat.lt_of_lt_of_le hlt (Nat.le_of_lt_succ hm)))
  exact fun a0 a1 a2 a3 a4 a5 a6 h => ⟨_, key _ a0 a1 a2 a3 a4 a5 a6 h (Nat.lt_succ_self _)⟩
theorem lp_Opn_checkOrder_2 {post : St → Prop} (I : Nat → Int32 → Int32 → Int32 → St → Prop) (m : Nat → Int32 → Int32 → Int32 → St → Nat)
    (step : ∀ (R : Nat → Int32 → Int32 → Int32 → St → Prop) (a0 : Nat) (a1 : Int32) (a2 : Int32) (a3 : Int32) (a4 : St), I a0 a1 a2 a3 a4 → (∀ (b0 : Nat) (b1 : Int32) (b2 : Int32) (b3 : Int32) (b4 : St), I b0 b1 b2 b3 b4 → m b0 b1 b2 b3 b4 < m a0 a1 a2 a3 a4 → R b0 b1 b2 b3 b4) → j_Opn_checkOrder_2 post R a0 a1 a2 a3 a4) :
    ∀ (a0 : Nat) (a1 : Int32) (a2 : Int32) (a3 : Int32) (a4 : St), I a0 a1 a2 a3 a4 → ∃ n : Nat, wl_Opn_checkOrder_2 post n a0 a1 a2 a3 a4 := by
  have key : ∀ (n : Nat) (a0 : Nat) (a1 : Int32) (a2 : Int32) (a3 : Int32) (a4 : St), I a0 a1 a2 a3 a4 → m a0 a1 a2 a3 a4 < n → wl_Opn_checkOrder_2 post n a0 a1 a2 a3 a4 := by
    intro n
    induction n with
    | zero => intro a0 a1 a2 a3 a4 _ h; exact absurd h (Nat.not_lt_zero _)
    | succ n ih => intro a0 a1 a2 a3 a4 h hm; exact step (wl_Opn_checkOrder_2 post n) a0 a1 a2 a3 a4 h (fun b0 b1 b2 b3 b4 hb hlt => ih b0 b1 b2 b3 b4 hb (Nat.lt_of_lt_of_le hlt (Nat.le_of_lt_succ hm)))
  exact fun a0 a1 a2 a3 a4 h => ⟨_, key _ a0 a1 a2 a3 a4 h (Nat.lt_succ_self _)⟩
theorem lp_Opn_keepPage_81 {post : St → Prop} (I : Nat → Int32 → Int32 → Int32 → Int32 → Int32 → Int32 → Int32 → Int32 → Int32 → St → Prop) (m : Nat → Int32 → Int32 → Int32 → Int32 → Int32 → Int32 → Int32 → Int32 → Int32 → St → Nat)
    (step : ∀ (R : Nat → Int32 → Int32 → Int32 → Int32 → Int32 → Int32 → Int32 → Int32 → Int32 → St → Prop) (a0 : Nat) (a1 : Int32) (a2 : Int32) (a3 : Int32) (a4 : Int32) (a5 : Int32) (a6 : Int32) (a7 : Int32) (a8 : Int32) (a9 : Int32) (a10 : St), I a0 a1 a2 a3 a4 a5 a6 a7 a8 a9 a10 → (∀ (b0 : Nat) (b1 : Int32) (b2 : Int32) (b3 : Int32) (b4 : Int32) (b5 : Int32) (b6 : Int32) (b7 : Int32) (b8 : Int32) (b9 : Int32) (b10 : St), I b0 b1 b2 b3 b4 b5 b6 b7 b8 b9 b10 → m b0 b1 b2 b3 b4 b5 b6 b7 b8 b9 b10 < m a0 a1 a2 a3 a4 a5 a6 a7 a8 a9 a10 → R b0 b1 b2 b3 b4 b5 b6 b7 b8 b9 b10) → j_Opn_keepPage_81 post R a0 a1 a2 a3 a4 a5 a6 a7 a8 a9 a10) :
    ∀ (a0 : Nat) (a1 : Int32) (a2 : Int32) (a3 : Int32) (a4 : Int32) (a5 : Int32) (a6 : Int32) (a7 : Int32) (a8 : Int32) (a9 : Int32) (a10 : St), I a0 a1 a2 a3 a4 a5 a6 a7 a8 a9 a10 → ∃ n : Nat, wl_Opn_keepPage_81 post n a0 a1 a2 a3 a4 a5 a6 a7 a8 a9 a10 := by
  have key : ∀ (n : Nat) (a0 : Nat) (a1 : Int32) (a2 : Int32) (a3 : Int32) (a4 : Int32) (a5 : Int32) (a6 : Int32) (a7 : Int32) (a8 : Int32) (a9 : Int32) (a10 : St), I a0 a1 a2 a3 a4 a5 a6 a7 a8 a9 a10 → m a0 a1 a2 a3 a4 a5 a6 a7 a8 a9 a10 < n → wl_Opn_keepPage_81 post n a0 a1 a2 a3 a4 a5 a6 a7 a8 a9 a10 := by
    intro n
    induction n with
    | zero => intro a0 a1 a2 a3 a4 a5 a6 a7 a8 a9 a10 _ h; exact absurd h (Nat.not_lt_zero _)
    | succ n ih => intro a0 a1 a2 a3 a4 a5 a6 a7 a8 a9 a10 h hm; exact step (wl_Opn_keepPage_81 post n) a0 a1 a2 a3 a4 a5 a6 a7 a8 a9 a10 h (fun b0 b1 b2 b3 b4 b5 b6 b7 b8 b9 b10 hb hlt => ih b0 b1 b2 b3 b4 b5 b6 b7 b8 b9 b10 hb (Nat.lt_of_lt_of_le hlt (Nat.le_of_lt_succ hm)))
  exact fun a0 a1 a2 a3 a4 a5 a6 a7 a8 a9 a10 h => ⟨_, key _ a0 a1 a2 a3 a4 a5 a6 a7 a8 a9 a10 h (Nat.lt_succ_self _)⟩
theorem lp_Opn_nextUpTo_3 {post : Int32 → St → Prop} (I : Nat → Int32 → Int32 → Int32 → Int32 → St → Prop) (m : Nat → Int32 → Int32 → Int32 → Int32 → St → Nat)
    (step : ∀ (R : Nat → Int32 → Int32 → Int32 → Int32 → St → Prop) (a0 : Nat) (a1 : Int32) (a2 : Int32) (a3 : Int32) (a4 : Int32) (a5 : St), I a0 a1 a2 a3 a4 a5 → (∀ (b0 : Nat) (b1 : Int32) (b2 : Int32) (b3 : Int32) (b4 : Int32) (b5 : St), I b0 b1 b2 b3 b4 b5 → m b0 b1 b2 b3 b4 b5 < m a0 a1 a2 a3 a4 a5 → R b0 b1 b2 b3 b4 b5) → j_Opn_nextUpTo_3 post R a0 a1 a2 a3 a4 a5) :
    ∀ (a0 : Nat) (a1 : Int32) (a2 : Int32) (a3 : Int32) (a4 : Int32) (a5 : St), I a0 a1 a2 a3 a4 a5 → ∃ n : Nat, wl_Opn_nextUpTo_3 post n a0 a1 a2 a3 a4 a5 := by
  have key : ∀ (n : Nat) (a0 : Nat) (a1 : Int32) (a2 : Int32) (a3 : Int32) (a4 : Int32) (a5 : St), I a0 a1 a2 a3 a4 a5 → m a0 a1 a2 a3 a4 a5 < n → wl_Opn_nextUpTo_3 post n a0 a1 a2 a3 a4 a5 := by
    intro n
    induction n with
    | zero => intro a0 a1 a2 a3 a4 a5 _ h; exact absurd h (Nat.not_lt_zero _)
    | succ n ih => intro a0 a1 a2 a3 a4 a5 h hm; exact step (wl_Opn_nextUpTo_3 post n) a0 a1 a2 a3 a4 a5 h (fun b0 b1 b2 b3 b4 b5 hb hlt => ih b0 b1 b2 b3 b4 b5 hb (Nat.lt_of_lt_of_le hlt (Nat.le_of_lt_succ hm)))
  exact fun a0 a1 a2 a3 a4 a5 h => ⟨_, key _ a0 a1 a2 a3 a4 a5 h (Nat.lt_succ_self _)⟩
theorem lp_Opn_goTogether_175 {post : Int32 → St → Prop} (I : Nat → Int32 → Int32 → Int32 → Nat → Int32 → Int32 → Int32 → Int32 → Int32 → Int32 → Int32 → Int32 → St → Prop) (m : Nat → Int32 → Int32 → Int32 → Nat → Int32 → Int32 → Int32 → Int32 → Int32 → Int32 → Int32 → Int32 → St → Nat)
    (step : ∀ (R : Nat → Int32 → Int32 → Int32 → Nat → Int32 → Int32 → Int32 → Int32 → Int32 → Int32 → Int32 → Int32 → St → Prop) (a0 : Nat) (a1 : Int32) (a2 : Int32) (a3 : Int32) (a4 : Nat) (a5 : Int32) (a6 : Int32) (a7 : Int32) (a8 : Int32) (a9 : Int32) (a10 : Int32) (a11 : Int32) (a12 : Int32) (a13 : St), I a0 a1 a2 a3 a4 a5 a6 a7 a8 a9 a10 a11 a12 a13 → (∀ (b0 : Nat) (b1 : Int32) (b2 : Int32) (b3 : Int32) (b4 : Nat) (b5 : Int32) (b6 : Int32) (b7 : Int32) (b8 : Int32) (b9 : Int32) (b10 : Int32) (b11 : Int32) (b12 : Int32) (b13 : St), I b0 b1 b2 b3 b4 b5 b6 b7 b8 b9 b10 b11 b12 b13 → m b0 b1 b2 b3 b4 b5 b6 b7 b8 b9 b10 b11 b12 b13 < m a0 a1 a2 a3 a4 a5 a6 a7 a8 a9 a10 a11 a12 a13 → R b0 b1 b2 b3 b4 b5 b6 b7 b8 b9 b10 b11 b12 b13) → j_Opn_goTogether_175 post R a0 a1 a2 a3 a4 a5 a6 a7 a8 a9 a10 a11 a12 a13) :
    ∀ (a0 : Nat) (a1 : Int32) (a2 : Int32) (a3 : Int32) (a4 : Nat) (a5 : Int32) (a6 : Int32) (a7 : Int32) (a8 : Int32) (a9 : Int32) (a10 : Int32) (a11 : Int32) (a12 : Int32) (a13 : St), I a0 a1 a2 a3 a4 a5 a6 a7 a8 a9 a10 a11 a12 a13 → ∃ n : Nat, wl_Opn_goTogether_175 post n a0 a1 a2 a3 a4 a5 a6 a7 a8 a9 a10 a11 a12 a13 := by
  have key : ∀ (n : Nat) (a0 : Nat) (a1 : Int32) (a2 : Int32) (a3 : Int32) (a4 : Nat) (a5 : Int32) (a6 : Int32) (a7 : Int32) (a8 : Int32) (a9 : Int32) (a10 : Int32) (a11 : Int32) (a12 : Int32) (a13 : St), I a0 a1 a2 a3 a4 a5 a6 a7 a8 a9 a10 a11 a12 a13 → m a0 a1 a2 a3 a4 a5 a6 a7 a8 a9 a10 a11 a12 a13 < n → wl_Opn_goTogether_175 post n a0 a1 a2 a3 a4 a5 a6 a7 a8 a9 a10 a11 a12 a13 := by
    intro n
    induction n with
    | zero => intro a0 a1 a2 a3 a4 a5 a6 a7 a8 a9 a10 a11 a12 a13 _ h; exact absurd h (Nat.not_lt_zero _)
    | succ n ih => intro a0 a1 a2 a3 a4 a5 a6 a7 a8 a9 a10 a11 a12 a13 h hm; exact step (wl_Opn_goTogether_175 post n) a0 a1 a2 a3 a4 a5 a6 a7 a8 a9 a10 a11 a12 a13 h (fun b0 b1 b2 b3 b4 b5 b6 b7 b8 b9 b10 b11 b12 b13 hb hlt => ih b0 b1 b2 b3 b4 b5 b6 b7 b8 b9 b10 b11 b12 b13 hb (Nat.lt_of_lt_of_le hlt (Nat.le_of_lt_succ hm)))
  exact fun a0 a1 a2 a3 a4 a5 a6 a7 a8 a9 a10 a11 a12 a13 h => ⟨_, key _ a0 a1 a2 a3 a4 a5 a6 a7 a8 a9 a10 a11 a12 a13 h (Nat.lt_succ_self _)⟩
theorem lp_Opn_goTogether_27 {post : Int32 → St → Prop} (I : Nat → Int32 → Int32 → Int32 → Nat → Int32 → Int32 → St → Prop) (m : Nat → Int32 → Int32 → Int32 → Nat → Int32 → Int32 → St → Nat)
    (step : ∀ (R : Nat → Int32 → Int32 → Int32 → Nat → Int32 → Int32 → St → Prop) (a0 : Nat) (a1 : Int32) (a2 : Int32) (a3 : Int32) (a4 : Nat) (a5 : Int32) (a6 : Int32) (a7 : St), I a0 a1 a2 a3 a4 a5 a6 a7 → (∀ (b0 : Nat) (b1 : Int32) (b2 : Int32) (b3 : Int32) (b4 : Nat) (b5 : Int32) (b6 : Int32) (b7 : St), I b0 b1 b2 b3 b4 b5 b6 b7 → m b0 b1 b2 b3 b4 b5 b6 b7 < m a0 a1 a2 a3 a4 a5 a6 a7 → R b0 b1 b2 b3 b4 b5 b6 b7) → j_Opn_goTogether_27 post R a0 a1 a2 a3 a4 a5 a6 a7) :
    ∀ (a0 : Nat) (a1 : Int32) (a2 : Int32) (a3 : Int32) (a4 : Nat) (a5 : Int32) (a6 : Int32) (a7 : St), I a0 a1 a2 a3 a4 a5 a6 a7 → ∃ n : Nat, wl_Opn_goTogether_27 post n a0 a1 a2 a3 a4 a5 a6 a7 := by
  have key : ∀ (n : Nat) (a0 : Nat) (a1 : Int32) (a2 : Int32) (a3 : Int32) (a4 : Nat) (a5 : Int32) (a6 : Int32) (a7 : St), I a0 a1 a2 a3 a4 a5 a6 a7 → m a0 a1 a2 a3 a4 a5 a6 a7 < n → wl_Opn_goTogether_27 post n a0 a1 a2 a3 a4 a5 a6 a7 := by
    intro n
    induction n with
    | zero => intro a0 a1 a2 a3 a4 a5 a6 a7 _ h; exact absurd h (Nat.not_lt_zero _)
    | succ n ih => intro a0 a1 a2 a3 a4 a5 a6 a7 h hm; exact step (wl_Opn_goTogether_27 post n) a0 a1 a2 a3 a4 a5 a6 a7 h (fun b0 b1 b2 b3 b4 b5 b6 b7 hb hlt => ih b0 b1 b2 b3 b4 b5 b6 b7 hb (Nat.lt_of_lt_of_le hlt (Nat.le_of_lt_succ hm)))
  exact fun a0 a1 a2 a3 a4 a5 a6 a7 h => ⟨_, key _ a0 a1 a2 a3 a4 a5 a6 a7 h (Nat.lt_succ_self _)⟩
theorem lp_Opn_lookAtChunks_182 {post : Int32 → St → Prop} {rec60 : Nat → Int32 → St → Prop} {rec102 : Nat → Int32 → Int32 → St → Prop} (I : Nat → Int32 → Int32 → Int32 → Int64 → Int32 → St → Prop) (m : Nat → Int32 → Int32 → Int32 → Int64 → Int32 → St → Nat)
    (step : ∀ (R : Nat → Int32 → Int32 → Int32 → Int64 → Int32 → St → Prop) (a0 : Nat) (a1 : Int32) (a2 : Int32) (a3 : Int32) (a4 : Int64) (a5 : Int32) (a6 : St), I a0 a1 a2 a3 a4 a5 a6 → (∀ (b0 : Nat) (b1 : Int32) (b2 : Int32) (b3 : Int32) (b4 : Int64) (b5 : Int32) (b6 : St), I b0 b1 b2 b3 b4 b5 b6 → m b0 b1 b2 b3 b4 b5 b6 < m a0 a1 a2 a3 a4 a5 a6 → R b0 b1 b2 b3 b4 b5 b6) → j_Opn_lookAtChunks_182 post rec60 rec102 R a0 a1 a2 a3 a4 a5 a6) :
    ∀ (a0 : Nat) (a1 : Int32) (a2 : Int32) (a3 : Int32) (a4 : Int64) (a5 : Int32) (a6 : St), I a0 a1 a2 a3 a4 a5 a6 → ∃ n : Nat, wl_Opn_lookAtChunks_182 post rec60 rec102 n a0 a1 a2 a3 a4 a5 a6 := by
  have key : ∀ (n : Nat) (a0 : Nat) (a1 : Int32) (a2 : Int32) (a3 : Int32) (a4 : Int64) (a5 : Int32) (a6 : St), I a0 a1 a2 a3 a4 a5 a6 → m a0 a1 a2 a3 a4 a5 a6 < n → wl_Opn_lookAtChunks_182 post rec60 rec102 n a0 a1 a2 a3 a4 a5 a6 := by
    intro n
    induction n with
    | zero => intro a0 a1 a2 a3 a4 a5 a6 _ h; exact absurd h (Nat.not_lt_zero _)
    | succ n ih => intro a0 a1 a2 a3 a4 a5 a6 h hm; exact step (wl_Opn_lookAtChunks_182 post rec60 rec102 n) a0 a1 a2 a3 a4 a5 a6 h (fun b0 b1 b2 b3 b4 b5 b6 hb hlt => ih b0 b1 b2 b3 b4 b5 b6 hb (Nat.lt_of_lt_of_le hlt (Nat.le_of_lt_succ hm)))
  exact fun a0 a1 a2 a3 a4 a5 a6 h => ⟨_, key _ a0 a1 a2 a3 a4 a5 a6 h (Nat.lt_succ_self _)⟩
theorem lp_Opn_lookAtChunks_102 {post : Int32 → St → Prop} {rec60 : Nat → Int32 → St → Prop} (I : Nat → Int32 → Int32 → St → Prop) (m : Nat → Int32 → Int32 → St → Nat)
    (step : ∀ (R : Nat → Int32 → Int32 → St → Prop) (a0 : Nat) (a1 : Int32) (a2 : Int32) (a3 : St), I a0 a1 a2 a3 → (∀ (b0 : Nat) (b1 : Int32) (b2 : Int32) (b3 : St), I b0 b1 b2 b3 → m b0 b1 b2 b3 < m a0 a1 a2 a3 → R b0 b1 b2 b3) → j_Opn_lookAtChunks_102 post rec60 R a0 a1 a2 a3) :
    ∀ (a0 : Nat) (a1 : Int32) (a2 : Int32) (a3 : St), I a0 a1 a2 a3 → ∃ n : Nat, wl_Opn_lookAtChunks_102 post rec60 n a0 a1 a2 a3 := by
  have key : ∀ (n : Nat) (a0 : Nat) (a1 : Int32) (a2 : Int32) (a3 : St), I a0 a1 a2 a3 → m a0 a1 a2 a3 < n → wl_Opn_lookAtChunks_102 post rec60 n a0 a1 a2 a3 := by
    intro n
    induction n with
    | zero => intro a0 a1 a2 a3 _ h; exact absurd h (Nat.not_lt_zero _)
    | succ n ih => intro a0 a1 a2 a3 h hm; exact step (wl_Opn_lookAtChunks_102 post rec60 n) a0 a1 a2 a3 h (fun b0 b1 b2 b3 hb hlt => ih b0 b1 b2 b3 hb (Nat.lt_of_lt_of_le hlt (Nat.le_of_lt_succ hm)))
  exact fun a0 a1 a2 a3 h => ⟨_, key _ a0 a1 a2 a3 h (Nat.lt_succ_self _)⟩
theorem lp_Opn_lookAtChunks_60 {post : Int32 → St → Prop} (I : Nat → Int32 → St → Prop) (m : Nat → Int32 → St → Nat)
    (step : ∀ (R : Nat → Int32 → St → Prop) (a0 : Nat) (a1 : Int32) (a2 : St), I a0 a1 a2 → (∀ (b0 : Nat) (b1 : Int32) (b2 : St), I b0 b1 b2 → m b0 b1 b2 < m a0 a1 a2 → R b0 b1 b2) → j_Opn_lookAtChunks_60 post R a0 a1 a2) :
    ∀ (a0 : Nat) (a1 : Int32) (a2 : St), I a0 a1 a2 → ∃ n : Nat, wl_Opn_lookAtChunks_60 post n a0 a1 a2 := by
  have key : ∀ (n : Nat) (a0 : Nat) (a1 : Int32) (a2 : St), I a0 a1 a2 → m a0 a1 a2 < n → wl_Opn_lookAtChunks_60 post n a0 a1 a2 := by
    intro n
    induction n with
    | zero => intro a0 a1 a2 _ h; exact absurd h (Nat.not_lt_zero _)
    | succ n ih => intro a0 a1 a2 h hm; exact step (wl_Opn_lookAtChunks_60 post n) a0 a1 a2 h (fun b0 b1 b2 hb hlt => ih b0 b1 b2 hb (Nat.lt_of_lt_of_le hlt (Nat.le_of_lt_succ hm)))
  exact fun a0 a1 a2 h => ⟨_, key _ a0 a1 a2 h (Nat.lt_succ_self _)⟩
theorem lp_Asm_passBy_36 {post : St → Prop} (I : Nat → Int32 → Int32 → Int32 → St → Prop) (m : Nat → Int32 → Int32 → Int32 → St → Nat)
    (step : ∀ (R : Nat → Int32 → Int32 → Int32 → St → Prop) (a0 : Nat) (a1 : Int32) (a2 : Int32) (a3 : Int32) (a4 : St), I a0 a1 a2 a3 a4 → (∀ (b0 : Nat) (b1 : Int32) (b2 : Int32) (b3 : Int32) (b4 : St), I b0 b1 b2 b3 b4 → m b0 b1 b2 b3 b4 < m a0 a1 a2 a3 a4 → R b0 b1 b2 b3 b4) → j_Asm_passBy_36 post R a0 a1 a2 a3 a4) :
    ∀ (a0 : Nat) (a1 : Int32) (a2 : Int32) (a3 : Int32) (a4 : St), I a0 a1 a2 a3 a4 → ∃ n : Nat, wl_Asm_passBy_36 post n a0 a1 a2 a3 a4 := by
  have key : ∀ (n : Nat) (a0 : Nat) (a1 : Int32) (a2 : Int32) (a3 : Int32) (a4 : St), I a0 a1 a2 a3 a4 → m a0 a1 a2 a3 a4 < n → wl_Asm_passBy_36 post n a0 a1 a2 a3 a4 := by
    intro n
    induction n with
    | zero => intro a0 a1 a2 a3 a4 _ h; exact absurd h (Nat.not_lt_zero _)
    | succ n ih => intro a0 a1 a2 a3 a4 h hm; exact step (wl_Asm_passBy_36 post n) a0 a1 a2 a3 a4 h (fun b0 b1 b2 b3 b4 hb hlt => ih b0 b1 b2 b3 b4 hb (Nat.lt_of_lt_of_le hlt (Nat.le_of_lt_succ hm)))
  exact fun a0 a1 a2 a3 a4 h => ⟨_, key _ a0 a1 a2 a3 a4 h (Nat.lt_succ_self _)⟩
theorem lp_Qry_readPath_37 {post : Int32 → St → Prop} (I : Nat → Int32 → Int32 → Int32 → St → Prop) (m : Nat → Int32 → Int32 → Int32 → St → Nat)
    (step : ∀ (R : Nat → Int32 → Int32 → Int32 → St → Prop) (a0 : Nat) (a1 : Int32) (a2 : Int32) (a3 : Int32) (a4 : St), I a0 a1 a2 a3 a4 → (∀ (b0 : Nat) (b1 : Int32) (b2 : Int32) (b3 : Int32) (b4 : St), I b0 b1 b2 b3 b4 → m b0 b1 b2 b3 b4 < m a0 a1 a2 a3 a4 → R b0 b1 b2 b3 b4) → j_Qry_readPath_37 post R a0 a1 a2 a3 a4) :
    ∀ (a0 : Nat) (a1 : Int32) (a2 : Int32) (a3 : Int32) (a4 : St), I a0 a1 a2 a3 a4 → ∃ n : Nat, wl_Qry_readPath_37 post n a0 a1 a2 a3 a4 := by
  have key : ∀ (n : Nat) (a0 : Nat) (a1 : Int32) (a2 : Int32) (a3 : Int32) (a4 : St), I a0 a1 a2 a3 a4 → m a0 a1 a2 a3 a4 < n → wl_Qry_readPath_37 post n a0 a1 a2 a3 a4 := by
    intro n
    induction n with
    | zero => intro a0 a1 a2 a3 a4 _ h; exact absurd h (Nat.not_lt_zero _)
    | succ n ih => intro a0 a1 a2 a3 a4 h hm; exact step (wl_Qry_readPath_37 post n) a0 a1 a2 a3 a4 h (fun b0 b1 b2 b3 b4 hb hlt => ih b0 b1 b2 b3 b4 hb (Nat.lt_of_lt_of_le hlt (Nat.le_of_lt_succ hm)))
  exact fun a0 a1 a2 a3 a4 h => ⟨_, key _ a0 a1 a2 a3 a4 h (Nat.lt_succ_self _)⟩
theorem lp_Qry_readItems_10 {post : St → Prop} (I : Nat → Int32 → Int32 → St → Prop) (m : Nat → Int32 → Int32 → St → Nat)
    (step : ∀ (R : Nat → Int32 → Int32 → St → Prop) (a0 : Nat) (a1 : Int32) (a2 : Int32) (a3 : St), I a0 a1 a2 a3 → (∀ (b0 : Nat) (b1 : Int32) (b2 : Int32) (b3 : St), I b0 b1 b2 b3 → m b0 b1 b2 b3 < m a0 a1 a2 a3 → R b0 b1 b2 b3) → j_Qry_readItems_10 post R a0 a1 a2 a3) :
    ∀ (a0 : Nat) (a1 : Int32) (a2 : Int32) (a3 : St), I a0 a1 a2 a3 → ∃ n : Nat, wl_Qry_readItems_10 post n a0 a1 a2 a3 := by
  have key : ∀ (n : Nat) (a0 : Nat) (a1 : Int32) (a2 : Int32) (a3 : St), I a0 a1 a2 a3 → m a0 a1 a2 a3 < n → wl_Qry_readItems_10 post n a0 a1 a2 a3 := by
    intro n
    induction n with
    | zero => intro a0 a1 a2 a3 _ h; exact absurd h (Nat.not_lt_zero _)
    | succ n ih => intro a0 a1 a2 a3 h hm; exact step (wl_Qry_readItems_10 post n) a0 a1 a2 a3 h (fun b0 b1 b2 b3 hb hlt => ih b0 b1 b2 b3 hb (Nat.lt_of_lt_of_le hlt (Nat.le_of_lt_succ hm)))
  exact fun a0 a1 a2 a3 h => ⟨_, key _ a0 a1 a2 a3 h (Nat.lt_succ_self _)⟩
theorem lp_Qry_readList_19 {post : St → Prop} (I : Nat → Int32 → Int32 → Int32 → St → Prop) (m : Nat → Int32 → Int32 → Int32 → St → Nat)
    (step : ∀ (R : Nat → Int32 → Int32 → Int32 → St → Prop) (a0 : Nat) (a1 : Int32) (a2 : Int32) (a3 : Int32) (a4 : St), I a0 a1 a2 a3 a4 → (∀ (b0 : Nat) (b1 : Int32) (b2 : Int32) (b3 : Int32) (b4 : St), I b0 b1 b2 b3 b4 → m b0 b1 b2 b3 b4 < m a0 a1 a2 a3 a4 → R b0 b1 b2 b3 b4) → j_Qry_readList_19 post R a0 a1 a2 a3 a4) :
    ∀ (a0 : Nat) (a1 : Int32) (a2 : Int32) (a3 : Int32) (a4 : St), I a0 a1 a2 a3 a4 → ∃ n : Nat, wl_Qry_readList_19 post n a0 a1 a2 a3 a4 := by
  have key : ∀ (n : Nat) (a0 : Nat) (a1 : Int32) (a2 : Int32) (a3 : Int32) (a4 : St), I a0 a1 a2 a3 a4 → m a0 a1 a2 a3 a4 < n → wl_Qry_readList_19 post n a0 a1 a2 a3 a4 := by
    intro n
    induction n with
    | zero => intro a0 a1 a2 a3 a4 _ h; exact absurd h (Nat.not_lt_zero _)
    | succ n ih => intro a0 a1 a2 a3 a4 h hm; exact step (wl_Qry_readList_19 post n) a0 a1 a2 a3 a4 h (fun b0 b1 b2 b3 b4 hb hlt => ih b0 b1 b2 b3 b4 hb (Nat.lt_of_lt_of_le hlt (Nat.le_of_lt_succ hm)))
  exact fun a0 a1 a2 a3 a4 h => ⟨_, key _ a0 a1 a2 a3 a4 h (Nat.lt_succ_self _)⟩
theorem lp_Qry_readCondition_10 {post : St → Prop} {self_Qry_readCondition : (St → Prop) → Nat → Int32 → St → Prop} {self_Qry_readTest : (St → Prop) → Nat → Int32 → St → Prop} (I : Nat → Int32 → Int32 → Int32 → Int32 → Int32 → St → Prop) (m : Nat → Int32 → Int32 → Int32 → Int32 → Int32 → St → Nat)
    (step : ∀ (R : Nat → Int32 → Int32 → Int32 → Int32 → Int32 → St → Prop) (a0 : Nat) (a1 : Int32) (a2 : Int32) (a3 : Int32) (a4 : Int32) (a5 : Int32) (a6 : St), I a0 a1 a2 a3 a4 a5 a6 → (∀ (b0 : Nat) (b1 : Int32) (b2 : Int32) (b3 : Int32) (b4 : Int32) (b5 : Int32) (b6 : St), I b0 b1 b2 b3 b4 b5 b6 → m b0 b1 b2 b3 b4 b5 b6 < m a0 a1 a2 a3 a4 a5 a6 → R b0 b1 b2 b3 b4 b5 b6) → j_Qry_readCondition_10 post self_Qry_readCondition self_Qry_readTest R a0 a1 a2 a3 a4 a5 a6) :
    ∀ (a0 : Nat) (a1 : Int32) (a2 : Int32) (a3 : Int32) (a4 : Int32) (a5 : Int32) (a6 : St), I a0 a1 a2 a3 a4 a5 a6 → ∃ n : Nat, wl_Qry_readCondition_10 post self_Qry_readCondition self_Qry_readTest n a0 a1 a2 a3 a4 a5 a6 := by
  have key : ∀ (n : Nat) (a0 : Nat) (a1 : Int32) (a2 : Int32) (a3 : Int32) (a4 : Int32) (a5 : Int32) (a6 : St), I a0 a1 a2 a3 a4 a5 a6 → m a0 a1 a2 a3 a4 a5 a6 < n → wl_Qry_readCondition_10 post self_Qry_readCondition self_Qry_readTest n a0 a1 a2 a3 a4 a5 a6 := by
    intro n
    induction n with
    | zero => intro a0 a1 a2 a3 a4 a5 a6 _ h; exact absurd h (Nat.not_lt_zero _)
    | succ n ih => intro a0 a1 a2 a3 a4 a5 a6 h hm; exact step (wl_Qry_readCondition_10 post self_Qry_readCondition self_Qry_readTest n) a0 a1 a2 a3 a4 a5 a6 h (fun b0 b1 b2 b3 b4 b5 b6 hb hlt => ih b0 b1 b2 b3 b4 b5 b6 hb (Nat.lt_of_lt_of_le hlt (Nat.le_of_lt_succ hm)))
  exact fun a0 a1 a2 a3 a4 a5 a6 h => ⟨_, key _ a0 a1 a2 a3 a4 a5 a6 h (Nat.lt_succ_self _)⟩
theorem lp_Qry_isBy_2 {post : Int32 → St → Prop} (I : Nat → Int32 → Int32 → St → Prop) (m : Nat → Int32 → Int32 → St → Nat)
    (step : ∀ (R : Nat → Int32 → Int32 → St → Prop) (a0 : Nat) (a1 : Int32) (a2 : Int32) (a3 : St), I a0 a1 a2 a3 → (∀ (b0 : Nat) (b1 : Int32) (b2 : Int32) (b3 : St), I b0 b1 b2 b3 → m b0 b1 b2 b3 < m a0 a1 a2 a3 → R b0 b1 b2 b3) → j_Qry_isBy_2 post R a0 a1 a2 a3) :
    ∀ (a0 : Nat) (a1 : Int32) (a2 : Int32) (a3 : St), I a0 a1 a2 a3 → ∃ n : Nat, wl_Qry_isBy_2 post n a0 a1 a2 a3 := by
  have key : ∀ (n : Nat) (a0 : Nat) (a1 : Int32) (a2 : Int32) (a3 : St), I a0 a1 a2 a3 → m a0 a1 a2 a3 < n → wl_Qry_isBy_2 post n a0 a1 a2 a3 := by
    intro n
    induction n with
    | zero => intro a0 a1 a2 a3 _ h; exact absurd h (Nat.not_lt_zero _)
    | succ n ih => intro a0 a1 a2 a3 h hm; exact step (wl_Qry_isBy_2 post n) a0 a1 a2 a3 h (fun b0 b1 b2 b3 hb hlt => ih b0 b1 b2 b3 hb (Nat.lt_of_lt_of_le hlt (Nat.le_of_lt_succ hm)))
  exact fun a0 a1 a2 a3 h => ⟨_, key _ a0 a1 a2 a3 h (Nat.lt_succ_self _)⟩
theorem lp_Qry_readBys_15 {post : St → Prop} (I : Nat → Int32 → Int32 → St → Prop) (m : Nat → Int32 → Int32 → St → Nat)
    (step : ∀ (R : Nat → Int32 → Int32 → St → Prop) (a0 : Nat) (a1 : Int32) (a2 : Int32) (a3 : St), I a0 a1 a2 a3 → (∀ (b0 : Nat) (b1 : Int32) (b2 : Int32) (b3 : St), I b0 b1 b2 b3 → m b0 b1 b2 b3 < m a0 a1 a2 a3 → R b0 b1 b2 b3) → j_Qry_readBys_15 post R a0 a1 a2 a3) :
    ∀ (a0 : Nat) (a1 : Int32) (a2 : Int32) (a3 : St), I a0 a1 a2 a3 → ∃ n : Nat, wl_Qry_readBys_15 post n a0 a1 a2 a3 := by
  have key : ∀ (n : Nat) (a0 : Nat) (a1 : Int32) (a2 : Int32) (a3 : St), I a0 a1 a2 a3 → m a0 a1 a2 a3 < n → wl_Qry_readBys_15 post n a0 a1 a2 a3 := by
    intro n
    induction n with
    | zero => intro a0 a1 a2 a3 _ h; exact absurd h (Nat.not_lt_zero _)
    | succ n ih => intro a0 a1 a2 a3 h hm; exact step (wl_Qry_readBys_15 post n) a0 a1 a2 a3 h (fun b0 b1 b2 b3 hb hlt => ih b0 b1 b2 b3 hb (Nat.lt_of_lt_of_le hlt (Nat.le_of_lt_succ hm)))
  exact fun a0 a1 a2 a3 h => ⟨_, key _ a0 a1 a2 a3 h (Nat.lt_succ_self _)⟩
theorem lp_Qry_checkItems_2 {post : St → Prop} (I : Nat → Int32 → St → Prop) (m : Nat → Int32 → St → Nat)
    (step : ∀ (R : Nat → Int32 → St → Prop) (a0 : Nat) (a1 : Int32) (a2 : St), I a0 a1 a2 → (∀ (b0 : Nat) (b1 : Int32) (b2 : St), I b0 b1 b2 → m b0 b1 b2 < m a0 a1 a2 → R b0 b1 b2) → j_Qry_checkItems_2 post R a0 a1 a2) :
    ∀ (a0 : Nat) (a1 : Int32) (a2 : St), I a0 a1 a2 → ∃ n : Nat, wl_Qry_checkItems_2 post n a0 a1 a2 := by
  have key : ∀ (n : Nat) (a0 : Nat) (a1 : Int32) (a2 : St), I a0 a1 a2 → m a0 a1 a2 < n → wl_Qry_checkItems_2 post n a0 a1 a2 := by
    intro n
    induction n with
    | zero => intro a0 a1 a2 _ h; exact absurd h (Nat.not_lt_zero _)
    | succ n ih => intro a0 a1 a2 h hm; exact step (wl_Qry_checkItems_2 post n) a0 a1 a2 h (fun b0 b1 b2 hb hlt => ih b0 b1 b2 hb (Nat.lt_of_lt_of_le hlt (Nat.le_of_lt_succ hm)))
  exact fun a0 a1 a2 h => ⟨_, key _ a0 a1 a2 h (Nat.lt_succ_self _)⟩
theorem lp_Ans_addGroup_30 {post : St → Prop} (I : Nat → Int32 → Int32 → Int32 → St → Prop) (m : Nat → Int32 → Int32 → Int32 → St → Nat)
    (step : ∀ (R : Nat → Int32 → Int32 → Int32 → St → Prop) (a0 : Nat) (a1 : Int32) (a2 : Int32) (a3 : Int32) (a4 : St), I a0 a1 a2 a3 a4 → (∀ (b0 : Nat) (b1 : Int32) (b2 : Int32) (b3 : Int32) (b4 : St), I b0 b1 b2 b3 b4 → m b0 b1 b2 b3 b4 < m a0 a1 a2 a3 a4 → R b0 b1 b2 b3 b4) → j_Ans_addGroup_30 post R a0 a1 a2 a3 a4) :
    ∀ (a0 : Nat) (a1 : Int32) (a2 : Int32) (a3 : Int32) (a4 : St), I a0 a1 a2 a3 a4 → ∃ n : Nat, wl_Ans_addGroup_30 post n a0 a1 a2 a3 a4 := by
  have key : ∀ (n : Nat) (a0 : Nat) (a1 : Int32) (a2 : Int32) (a3 : Int32) (a4 : St), I a0 a1 a2 a3 a4 → m a0 a1 a2 a3 a4 < n → wl_Ans_addGroup_30 post n a0 a1 a2 a3 a4 := by
    intro n
    induction n with
    | zero => intro a0 a1 a2 a3 a4 _ h; exact absurd h (Nat.not_lt_zero _)
    | succ n ih => intro a0 a1 a2 a3 a4 h hm; exact step (wl_Ans_addGroup_30 post n) a0 a1 a2 a3 a4 h (fun b0 b1 b2 b3 b4 hb hlt => ih b0 b1 b2 b3 b4 hb (Nat.lt_of_lt_of_le hlt (Nat.le_of_lt_succ hm)))
  exact fun a0 a1 a2 a3 a4 h => ⟨_, key _ a0 a1 a2 a3 a4 h (Nat.lt_succ_self _)⟩
