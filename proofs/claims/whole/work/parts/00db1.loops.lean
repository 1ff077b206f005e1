theorem lp_Mod_putFooter_18 {post : St → Prop} (I : Int32 → Int32 → St → Prop) (m : Int32 → Int32 → St → Nat)
    (step : ∀ (R : Int32 → Int32 → St → Prop) (a0 : Int32) (a1 : Int32) (a2 : St), I a0 a1 a2 → (∀ (b0 : Int32) (b1 : Int32) (b2 : St), I b0 b1 b2 → m b0 b1 b2 < m a0 a1 a2 → R b0 b1 b2) → j_Mod_putFooter_18 post R a0 a1 a2) :
    ∀ (a0 : Int32) (a1 : Int32) (a2 : St), I a0 a1 a2 → ∃ n : Nat, wl_Mod_putFooter_18 post n a0 a1 a2 := by
  have key : ∀ (n : Nat) (a0 : Int32) (a1 : Int32) (a2 : St), I a0 a1 a2 → m a0 a1 a2 < n → wl_Mod_putFooter_18 post n a0 a1 a2 := by
    intro n
    induction n with
    | zero => intro a0 a1 a2 _ h; exact absurd h (Nat.not_lt_zero _)
    | succ n ih => intro a0 a1 a2 h hm; exact step (wl_Mod_putFooter_18 post n) a0 a1 a2 h (fun b0 b1 b2 hb hlt => ih b0 b1 b2 hb (Nat.lt_of_lt_of_le hlt (Nat.le_of_lt_succ hm)))
  exact fun a0 a1 a2 h => ⟨_, key _ a0 a1 a2 h (Nat.lt_succ_self _)⟩
theorem lp_Mod_write_270 {post : Int32 → St → Prop} (I : Int32 → Int32 → Int32 → Int32 → Int32 → Int32 → St → Prop) (m : Int32 → Int32 → Int32 → Int32 → Int32 → Int32 → St → Nat)
    (step : ∀ (R : Int32 → Int32 → Int32 → Int32 → Int32 → Int32 → St → Prop) (a0 : Int32) (a1 : Int32) (a2 : Int32) (a3 : Int32) (a4 : Int32) (a5 : Int32) (a6 : St), I a0 a1 a2 a3 a4 a5 a6 → (∀ (b0 : Int32) (b1 : Int32) (b2 : Int32) (b3 : Int32) (b4 : Int32) (b5 : Int32) (b6 : St), I b0 b1 b2 b3 b4 b5 b6 → m b0 b1 b2 b3 b4 b5 b6 < m a0 a1 a2 a3 a4 a5 a6 → R b0 b1 b2 b3 b4 b5 b6) → j_Mod_write_270 post R a0 a1 a2 a3 a4 a5 a6) :
    ∀ (a0 : Int32) (a1 : Int32) (a2 : Int32) (a3 : Int32) (a4 : Int32) (a5 : Int32) (a6 : St), I a0 a1 a2 a3 a4 a5 a6 → ∃ n : Nat, wl_Mod_write_270 post n a0 a1 a2 a3 a4 a5 a6 := by
  have key : ∀ (n : Nat) (a0 : Int32) (a1 : Int32) (a2 : Int32) (a3 : Int32) (a4 : Int32) (a5 : Int32) (a6 : St), I a0 a1 a2 a3 a4 a5 a6 → m a0 a1 a2 a3 a4 a5 a6 < n → wl_Mod_write_270 post n a0 a1 a2 a3 a4 a5 a6 := by
    intro n
    induction n with
    | zero => intro a0 a1 a2 a3 a4 a5 a6 _ h; exact absurd h (Nat.not_lt_zero _)
    | succ n ih => intro a0 a1 a2 a3 a4 a5 a6 h hm; exact step (wl_Mod_write_270 post n) a0 a1 a2 a3 a4 a5 a6 h (fun b0 b1 b2 b3 b4 b5 b6 hb hlt => ih b0 b1 b2 b3 b4 b5 b6 hb (Nat.lt_of_lt_of_le hlt (Nat.le_of_lt_succ hm)))
  exact fun a0 a1 a2 a3 a4 a5 a6 h => ⟨_, key _ a0 a1 a2 a3 a4 a5 a6 h (Nat.lt_succ_self _)⟩
theorem lp_Mod_write_235 {post : Int32 → St → Prop} (I : Int32 → Int32 → Int32 → Int32 → Int32 → Int32 → St → Prop) (m : Int32 → Int32 → Int32 → Int32 → Int32 → Int32 → St → Nat)
    (step : ∀ (R : Int32 → Int32 → Int32 → Int32 → Int32 → Int32 → St → Prop) (a0 : Int32) (a1 : Int32) (a2 : Int32) (a3 : Int32) (a4 : Int32) (a5 : Int32) (a6 : St), I a0 a1 a2 a3 a4 a5 a6 → (∀ (b0 : Int32) (b1 : Int32) (b2 : Int32) (b3 : Int32) (b4 : Int32) (b5 : Int32) (b6 : St), I b0 b1 b2 b3 b4 b5 b6 → m b0 b1 b2 b3 b4 b5 b6 < m a0 a1 a2 a3 a4 a5 a6 → R b0 b1 b2 b3 b4 b5 b6) → j_Mod_write_235 post R a0 a1 a2 a3 a4 a5 a6) :
    ∀ (a0 : Int32) (a1 : Int32) (a2 : Int32) (a3 : Int32) (a4 : Int32) (a5 : Int32) (a6 : St), I a0 a1 a2 a3 a4 a5 a6 → ∃ n : Nat, wl_Mod_write_235 post n a0 a1 a2 a3 a4 a5 a6 := by
  have key : ∀ (n : Nat) (a0 : Int32) (a1 : Int32) (a2 : Int32) (a3 : Int32) (a4 : Int32) (a5 : Int32) (a6 : St), I a0 a1 a2 a3 a4 a5 a6 → m a0 a1 a2 a3 a4 a5 a6 < n → wl_Mod_write_235 post n a0 a1 a2 a3 a4 a5 a6 := by
    intro n
    induction n with
    | zero => intro a0 a1 a2 a3 a4 a5 a6 _ h; exact absurd h (Nat.not_lt_zero _)
    | succ n ih => intro a0 a1 a2 a3 a4 a5 a6 h hm; exact step (wl_Mod_write_235 post n) a0 a1 a2 a3 a4 a5 a6 h (fun b0 b1 b2 b3 b4 b5 b6 hb hlt => ih b0 b1 b2 b3 b4 b5 b6 hb (Nat.lt_of_lt_of_le hlt (Nat.le_of_lt_succ hm)))
  exact fun a0 a1 a2 a3 a4 a5 a6 h => ⟨_, key _ a0 a1 a2 a3 a4 a5 a6 h (Nat.lt_succ_self _)⟩
theorem lp_Mod_write_204 {post : Int32 → St → Prop} (I : Int32 → Int32 → Int32 → Int32 → Int32 → Int32 → St → Prop) (m : Int32 → Int32 → Int32 → Int32 → Int32 → Int32 → St → Nat)
    (step : ∀ (R : Int32 → Int32 → Int32 → Int32 → Int32 → Int32 → St → Prop) (a0 : Int32) (a1 : Int32) (a2 : Int32) (a3 : Int32) (a4 : Int32) (a5 : Int32) (a6 : St), I a0 a1 a2 a3 a4 a5 a6 → (∀ (b0 : Int32) (b1 : Int32) (b2 : Int32) (b3 : Int32) (b4 : Int32) (b5 : Int32) (b6 : St), I b0 b1 b2 b3 b4 b5 b6 → m b0 b1 b2 b3 b4 b5 b6 < m a0 a1 a2 a3 a4 a5 a6 → R b0 b1 b2 b3 b4 b5 b6) → j_Mod_write_204 post R a0 a1 a2 a3 a4 a5 a6) :
    ∀ (a0 : Int32) (a1 : Int32) (a2 : Int32) (a3 : Int32) (a4 : Int32) (a5 : Int32) (a6 : St), I a0 a1 a2 a3 a4 a5 a6 → ∃ n : Nat, wl_Mod_write_204 post n a0 a1 a2 a3 a4 a5 a6 := by
  have key : ∀ (n : Nat) (a0 : Int32) (a1 : Int32) (a2 : Int32) (a3 : Int32) (a4 : Int32) (a5 : Int32) (a6 : St), I a0 a1 a2 a3 a4 a5 a6 → m a0 a1 a2 a3 a4 a5 a6 < n → wl_Mod_write_204 post n a0 a1 a2 a3 a4 a5 a6 := by
    intro n
    induction n with
    | zero => intro a0 a1 a2 a3 a4 a5 a6 _ h; exact absurd h (Nat.not_lt_zero _)
    | succ n ih => intro a0 a1 a2 a3 a4 a5 a6 h hm; exact step (wl_Mod_write_204 post n) a0 a1 a2 a3 a4 a5 a6 h (fun b0 b1 b2 b3 b4 b5 b6 hb hlt => ih b0 b1 b2 b3 b4 b5 b6 hb (Nat.lt_of_lt_of_le hlt (Nat.le_of_lt_succ hm)))
  exact fun a0 a1 a2 a3 a4 a5 a6 h => ⟨_, key _ a0 a1 a2 a3 a4 a5 a6 h (Nat.lt_succ_self _)⟩
theorem lp_Mod_write_80 {post : Int32 → St → Prop} {rec68 : Int32 → Int32 → Int32 → Int32 → St → Prop} (I : Int32 → Int32 → Int32 → Int32 → Int32 → St → Prop) (m : Int32 → Int32 → Int32 → Int32 → Int32 → St → Nat)
    (step : ∀ (R : Int32 → Int32 → Int32 → Int32 → Int32 → St → Prop) (a0 : Int32) (a1 : Int32) (a2 : Int32) (a3 : Int32) (a4 : Int32) (a5 : St), I a0 a1 a2 a3 a4 a5 → (∀ (b0 : Int32) (b1 : Int32) (b2 : Int32) (b3 : Int32) (b4 : Int32) (b5 : St), I b0 b1 b2 b3 b4 b5 → m b0 b1 b2 b3 b4 b5 < m a0 a1 a2 a3 a4 a5 → R b0 b1 b2 b3 b4 b5) → j_Mod_write_80 post rec68 R a0 a1 a2 a3 a4 a5) :
    ∀ (a0 : Int32) (a1 : Int32) (a2 : Int32) (a3 : Int32) (a4 : Int32) (a5 : St), I a0 a1 a2 a3 a4 a5 → ∃ n : Nat, wl_Mod_write_80 post rec68 n a0 a1 a2 a3 a4 a5 := by
  have key : ∀ (n : Nat) (a0 : Int32) (a1 : Int32) (a2 : Int32) (a3 : Int32) (a4 : Int32) (a5 : St), I a0 a1 a2 a3 a4 a5 → m a0 a1 a2 a3 a4 a5 < n → wl_Mod_write_80 post rec68 n a0 a1 a2 a3 a4 a5 := by
    intro n
    induction n with
    | zero => intro a0 a1 a2 a3 a4 a5 _ h; exact absurd h (Nat.not_lt_zero _)
    | succ n ih => intro a0 a1 a2 a3 a4 a5 h hm; exact step (wl_Mod_write_80 post rec68 n) a0 a1 a2 a3 a4 a5 h (fun b0 b1 b2 b3 b4 b5 hb hlt => ih b0 b1 b2 b3 b4 b5 hb (Nat.lt_of_lt_of_le hlt (Nat.le_of_lt_succ hm)))
  exact fun a0 a1 a2 a3 a4 a5 h => ⟨_, key _ a0 a1 a2 a3 a4 a5 h (Nat.lt_succ_self _)⟩
theorem lp_Mod_write_68 {post : Int32 → St → Prop} (I : Int32 → Int32 → Int32 → Int32 → St → Prop) (m : Int32 → Int32 → Int32 → Int32 → St → Nat)
    (step : ∀ (R : Int32 → Int32 → Int32 → Int32 → St → Prop) (a0 : Int32) (a1 : Int32) (a2 : Int32) (a3 : Int32) (a4 : St), I a0 a1 a2 a3 a4 → (∀ (b0 : Int32) (b1 : Int32) (b2 : Int32) (b3 : Int32) (b4 : St), I b0 b1 b2 b3 b4 → m b0 b1 b2 b3 b4 < m a0 a1 a2 a3 a4 → R b0 b1 b2 b3 b4) → j_Mod_write_68 post R a0 a1 a2 a3 a4) :
    ∀ (a0 : Int32) (a1 : Int32) (a2 : Int32) (a3 : Int32) (a4 : St), I a0 a1 a2 a3 a4 → ∃ n : Nat, wl_Mod_write_68 post n a0 a1 a2 a3 a4 := by
  have key : ∀ (n : Nat) (a0 : Int32) (a1 : Int32) (a2 : Int32) (a3 : Int32) (a4 : St), I a0 a1 a2 a3 a4 → m a0 a1 a2 a3 a4 < n → wl_Mod_write_68 post n a0 a1 a2 a3 a4 := by
    intro n
    induction n with
    | zero => intro a0 a1 a2 a3 a4 _ h; exact absurd h (Nat.not_lt_zero _)
    | succ n ih => intro a0 a1 a2 a3 a4 h hm; exact step (wl_Mod_write_68 post n) a0 a1 a2 a3 a4 h (fun b0 b1 b2 b3 b4 hb hlt => ih b0 b1 b2 b3 b4 hb (Nat.lt_of_lt_of_le hlt (Nat.le_of_lt_succ hm)))
  exact fun a0 a1 a2 a3 a4 h => ⟨_, key _ a0 a1 a2 a3 a4 h (Nat.lt_succ_self _)⟩
theorem lp_Mod_take_7 {post : St → Prop} (I : Int32 → St → Prop) (m : Int32 → St → Nat)
    (step : ∀ (R : Int32 → St → Prop) (a0 : Int32) (a1 : St), I a0 a1 → (∀ (b0 : Int32) (b1 : St), I b0 b1 → m b0 b1 < m a0 a1 → R b0 b1) → j_Mod_take_7 post R a0 a1) :
    ∀ (a0 : Int32) (a1 : St), I a0 a1 → ∃ n : Nat, wl_Mod_take_7 post n a0 a1 := by
  have key : ∀ (n : Nat) (a0 : Int32) (a1 : St), I a0 a1 → m a0 a1 < n → wl_Mod_take_7 post n a0 a1 := by
    intro n
    induction n with
    | zero => intro a0 a1 _ h; exact absurd h (Nat.not_lt_zero _)
    | succ n ih => intro a0 a1 h hm; exact step (wl_Mod_take_7 post n) a0 a1 h (fun b0 b1 hb hlt => ih b0 b1 hb (Nat.lt_of_lt_of_le hlt (Nat.le_of_lt_succ hm)))
  exact fun a0 a1 h => ⟨_, key _ a0 a1 h (Nat.lt_succ_self _)⟩
theorem lp_Mod_fixed_38 {post : Int64 → St → Prop} (I : Int32 → Int32 → Int64 → Int32 → St → Prop) (m : Int32 → Int32 → Int64 → Int32 → St → Nat)
    (step : ∀ (R : Int32 → Int32 → Int64 → Int32 → St → Prop) (a0 : Int32) (a1 : Int32) (a2 : Int64) (a3 : Int32) (a4 : St), I a0 a1 a2 a3 a4 → (∀ (b0 : Int32) (b1 : Int32) (b2 : Int64) (b3 : Int32) (b4 : St), I b0 b1 b2 b3 b4 → m b0 b1 b2 b3 b4 < m a0 a1 a2 a3 a4 → R b0 b1 b2 b3 b4) → j_Mod_fixed_38 post R a0 a1 a2 a3 a4) :
    ∀ (a0 : Int32) (a1 : Int32) (a2 : Int64) (a3 : Int32) (a4 : St), I a0 a1 a2 a3 a4 → ∃ n : Nat, wl_Mod_fixed_38 post n a0 a1 a2 a3 a4 := by
  have key : ∀ (n : Nat) (a0 : Int32) (a1 : Int32) (a2 : Int64) (a3 : Int32) (a4 : St), I a0 a1 a2 a3 a4 → m a0 a1 a2 a3 a4 < n → wl_Mod_fixed_38 post n a0 a1 a2 a3 a4 := by
    intro n
    induction n with
    | zero => intro a0 a1 a2 a3 a4 _ h; exact absurd h (Nat.not_lt_zero _)
    | succ n ih => intro a0 a1 a2 a3 a4 h hm; exact step (wl_Mod_fixed_38 post n) a0 a1 a2 a3 a4 h (fun b0 b1 b2 b3 b4 hb hlt => ih b0 b1 b2 b3 b4 hb (Nat.lt_of_lt_of_le hlt (Nat.le_of_lt_succ hm)))
  exact fun a0 a1 a2 a3 a4 h => ⟨_, key _ a0 a1 a2 a3 a4 h (Nat.lt_succ_self _)⟩
theorem lp_Mod_varint_5 {post : Int64 → St → Prop} (I : Int32 → Int64 → Int32 → St → Prop) (m : Int32 → Int64 → Int32 → St → Nat)
    (step : ∀ (R : Int32 → Int64 → Int32 → St → Prop) (a0 : Int32) (a1 : Int64) (a2 : Int32) (a3 : St), I a0 a1 a2 a3 → (∀ (b0 : Int32) (b1 : Int64) (b2 : Int32) (b3 : St), I b0 b1 b2 b3 → m b0 b1 b2 b3 < m a0 a1 a2 a3 → R b0 b1 b2 b3) → j_Mod_varint_5 post R a0 a1 a2 a3) :
    ∀ (a0 : Int32) (a1 : Int64) (a2 : Int32) (a3 : St), I a0 a1 a2 a3 → ∃ n : Nat, wl_Mod_varint_5 post n a0 a1 a2 a3 := by
  have key : ∀ (n : Nat) (a0 : Int32) (a1 : Int64) (a2 : Int32) (a3 : St), I a0 a1 a2 a3 → m a0 a1 a2 a3 < n → wl_Mod_varint_5 post n a0 a1 a2 a3 := by
    intro n
    induction n with
    | zero => intro a0 a1 a2 a3 _ h; exact absurd h (Nat.not_lt_zero _)
    | succ n ih => intro a0 a1 a2 a3 h hm; exact step (wl_Mod_varint_5 post n) a0 a1 a2 a3 h (fun b0 b1 b2 b3 hb hlt => ih b0 b1 b2 b3 hb (Nat.lt_of_lt_of_le hlt (Nat.le_of_lt_succ hm)))
  exact fun a0 a1 a2 a3 h => ⟨_, key _ a0 a1 a2 a3 h (Nat.lt_succ_self _)⟩
theorem lp_Mod_openField_192 {post : St → Prop} (I : Int32 → Int32 → Int64 → Int64 → Int32 → Int32 → Int32 → St → Prop) (m : Int32 → Int32 → Int64 → Int64 → Int32 → Int32 → Int32 → St → Nat)
    (step : ∀ (R : Int32 → Int32 → Int64 → Int64 → Int32 → Int32 → Int32 → St → Prop) (a0 : Int32) (a1 : Int32) (a2 : Int64) (a3 : Int64) (a4 : Int32) (a5 : Int32) (a6 : Int32) (a7 : St), I a0 a1 a2 a3 a4 a5 a6 a7 → (∀ (b0 : Int32) (b1 : Int32) (b2 : Int64) (b3 : Int64) (b4 : Int32) (b5 : Int32) (b6 : Int32) (b7 : St), I b0 b1 b2 b3 b4 b5 b6 b7 → m b0 b1 b2 b3 b4 b5 b6 b7 < m a0 a1 a2 a3 a4 a5 a6 a7 → R b0 b1 b2 b3 b4 b5 b6 b7) → j_Mod_openField_192 post R a0 a1 a2 a3 a4 a5 a6 a7) :
    ∀ (a0 : Int32) (a1 : Int32) (a2 : Int64) (a3 : Int64) (a4 : Int32) (a5 : Int32) (a6 : Int32) (a7 : St), I a0 a1 a2 a3 a4 a5 a6 a7 → ∃ n : Nat, wl_Mod_openField_192 post n a0 a1 a2 a3 a4 a5 a6 a7 := by
  have key : ∀ (n : Nat) (a0 : Int32) (a1 : Int32) (a2 : Int64) (a3 : Int64) (a4 : Int32) (a5 : Int32) (a6 : Int32) (a7 : St), I a0 a1 a2 a3 a4 a5 a6 a7 → m a0 a1 a2 a3 a4 a5 a6 a7 < n → wl_Mod_openField_192 post n a0 a1 a2 a3 a4 a5 a6 a7 := by
    intro n
    induction n with
    | zero => intro a0 a1 a2 a3 a4 a5 a6 a7 _ h; exact absurd h (Nat.not_lt_zero _)
    | succ n ih => intro a0 a1 a2 a3 a4 a5 a6 a7 h hm; exact step (wl_Mod_openField_192 post n) a0 a1 a2 a3 a4 a5 a6 a7 h (fun b0 b1 b2 b3 b4 b5 b6 b7 hb hlt => ih b0 b1 b2 b3 b4 b5 b6 b7 hb (Nat.lt_of_lt_of_le hlt (Nat.le_of_lt_succ hm)))
  exact fun a0 a1 a2 a3 a4 a5 a6 a7 h => ⟨_, key _ a0 a1 a2 a3 a4 a5 a6 a7 h (Nat.lt_succ_self _)⟩
theorem lp_Mod_openField_91 {post : St → Prop} (I : Int32 → Int32 → Int64 → Int64 → Int32 → Int32 → Int32 → St → Prop) (m : Int32 → Int32 → Int64 → Int64 → Int32 → Int32 → Int32 → St → Nat)
    (step : ∀ (R : Int32 → Int32 → Int64 → Int64 → Int32 → Int32 → Int32 → St → Prop) (a0 : Int32) (a1 : Int32) (a2 : Int64) (a3 : Int64) (a4 : Int32) (a5 : Int32) (a6 : Int32) (a7 : St), I a0 a1 a2 a3 a4 a5 a6 a7 → (∀ (b0 : Int32) (b1 : Int32) (b2 : Int64) (b3 : Int64) (b4 : Int32) (b5 : Int32) (b6 : Int32) (b7 : St), I b0 b1 b2 b3 b4 b5 b6 b7 → m b0 b1 b2 b3 b4 b5 b6 b7 < m a0 a1 a2 a3 a4 a5 a6 a7 → R b0 b1 b2 b3 b4 b5 b6 b7) → j_Mod_openField_91 post R a0 a1 a2 a3 a4 a5 a6 a7) :
    ∀ (a0 : Int32) (a1 : Int32) (a2 : Int64) (a3 : Int64) (a4 : Int32) (a5 : Int32) (a6 : Int32) (a7 : St), I a0 a1 a2 a3 a4 a5 a6 a7 → ∃ n : Nat, wl_Mod_openField_91 post n a0 a1 a2 a3 a4 a5 a6 a7 := by
  have key : ∀ (n : Nat) (a0 : Int32) (a1 : Int32) (a2 : Int64) (a3 : Int64) (a4 : Int32) (a5 : Int32) (a6 : Int32) (a7 : St), I a0 a1 a2 a3 a4 a5 a6 a7 → m a0 a1 a2 a3 a4 a5 a6 a7 < n → wl_Mod_openField_91 post n a0 a1 a2 a3 a4 a5 a6 a7 := by
    intro n
    induction n with
    | zero => intro a0 a1 a2 a3 a4 a5 a6 a7 _ h; exact absurd h (Nat.not_lt_zero _)
    | succ n ih => intro a0 a1 a2 a3 a4 a5 a6 a7 h hm; exact step (wl_Mod_openField_91 post n) a0 a1 a2 a3 a4 a5 a6 a7 h (fun b0 b1 b2 b3 b4 b5 b6 b7 hb hlt => ih b0 b1 b2 b3 b4 b5 b6 b7 hb (Nat.lt_of_lt_of_le hlt (Nat.le_of_lt_succ hm)))
  exact fun a0 a1 a2 a3 a4 a5 a6 a7 h => ⟨_, key _ a0 a1 a2 a3 a4 a5 a6 a7 h (Nat.lt_succ_self _)⟩
theorem lp_Mod_openSchema_103 {post : St → Prop} {rec67 : Int32 → Int32 → Int32 → St → Prop} (I : Int32 → Int32 → Int32 → Int32 → Int32 → St → Prop) (m : Int32 → Int32 → Int32 → Int32 → Int32 → St → Nat)
    (step : ∀ (R : Int32 → Int32 → Int32 → Int32 → Int32 → St → Prop) (a0 : Int32) (a1 : Int32) (a2 : Int32) (a3 : Int32) (a4 : Int32) (a5 : St), I a0 a1 a2 a3 a4 a5 → (∀ (b0 : Int32) (b1 : Int32) (b2 : Int32) (b3 : Int32) (b4 : Int32) (b5 : St), I b0 b1 b2 b3 b4 b5 → m b0 b1 b2 b3 b4 b5 < m a0 a1 a2 a3 a4 a5 → R b0 b1 b2 b3 b4 b5) → j_Mod_openSchema_103 post rec67 R a0 a1 a2 a3 a4 a5) :
    ∀ (a0 : Int32) (a1 : Int32) (a2 : Int32) (a3 : Int32) (a4 : Int32) (a5 : St), I a0 a1 a2 a3 a4 a5 → ∃ n : Nat, wl_Mod_openSchema_103 post rec67 n a0 a1 a2 a3 a4 a5 := by
  have key : ∀ (n : Nat) (a0 : Int32) (a1 : Int32) (a2 : Int32) (a3 : Int32) (a4 : Int32) (a5 : St), I a0 a1 a2 a3 a4 a5 → m a0 a1 a2 a3 a4 a5 < n → wl_Mod_openSchema_103 post rec67 n a0 a1 a2 a3 a4 a5 := by
    intro n
    induction n with
    | zero => intro a0 a1 a2 a3 a4 a5 _ h; exact absurd h (Nat.not_lt_zero _)
    | succ n ih => intro a0 a1 a2 a3 a4 a5 h hm; exact step (wl_Mod_openSchema_103 post rec67 n) a0 a1 a2 a3 a4 a5 h (fun b0 b1 b2 b3 b4 b5 hb hlt => ih b0 b1 b2 b3 b4 b5 hb (Nat.lt_of_lt_of_le hlt (Nat.le_of_lt_succ hm)))
  exact fun a0 a1 a2 a3 a4 a5 h => ⟨_, key _ a0 a1 a2 a3 a4 a5 h (Nat.lt_succ_self _)⟩
theorem lp_Mod_openSchema_67 {post : St → Prop} (I : Int32 → Int32 → Int32 → St → Prop) (m : Int32 → Int32 → Int32 → St → Nat)
    (step : ∀ (R : Int32 → Int32 → Int32 → St → Prop) (a0 : Int32) (a1 : Int32) (a2 : Int32) (a3 : St), I a0 a1 a2 a3 → (∀ (b0 : Int32) (b1 : Int32) (b2 : Int32) (b3 : St), I b0 b1 b2 b3 → m b0 b1 b2 b3 < m a0 a1 a2 a3 → R b0 b1 b2 b3) → j_Mod_openSchema_67 post R a0 a1 a2 a3) :
    ∀ (a0 : Int32) (a1 : Int32) (a2 : Int32) (a3 : St), I a0 a1 a2 a3 → ∃ n : Nat, wl_Mod_openSchema_67 post n a0 a1 a2 a3 := by
  have key : ∀ (n : Nat) (a0 : Int32) (a1 : Int32) (a2 : Int32) (a3 : St), I a0 a1 a2 a3 → m a0 a1 a2 a3 < n → wl_Mod_openSchema_67 post n a0 a1 a2 a3 := by
    intro n
    induction n with
    | zero => intro a0 a1 a2 a3 _ h; exact absurd h (Nat.not_lt_zero _)
    | succ n ih => intro a0 a1 a2 a3 h hm; exact step (wl_Mod_openSchema_67 post n) a0 a1 a2 a3 h (fun b0 b1 b2 b3 hb hlt => ih b0 b1 b2 b3 hb (Nat.lt_of_lt_of_le hlt (Nat.le_of_lt_succ hm)))
  exact fun a0 a1 a2 a3 h => ⟨_, key _ a0 a1 a2 a3 h (Nat.lt_succ_self _)⟩
theorem lp_Mod_openSchema_42 {post : St → Prop} (I : Int32 → Int32 → Int32 → St → Prop) (m : Int32 → Int32 → Int32 → St → Nat)
    (step : ∀ (R : Int32 → Int32 → Int32 → St → Prop) (a0 : Int32) (a1 : Int32) (a2 : Int32) (a3 : St), I a0 a1 a2 a3 → (∀ (b0 : Int32) (b1 : Int32) (b2 : Int32) (b3 : St), I b0 b1 b2 b3 → m b0 b1 b2 b3 < m a0 a1 a2 a3 → R b0 b1 b2 b3) → j_Mod_openSchema_42 post R a0 a1 a2 a3) :
    ∀ (a0 : Int32) (a1 : Int32) (a2 : Int32) (a3 : St), I a0 a1 a2 a3 → ∃ n : Nat, wl_Mod_openSchema_42 post n a0 a1 a2 a3 := by
  have key : ∀ (n : Nat) (a0 : Int32) (a1 : Int32) (a2 : Int32) (a3 : St), I a0 a1 a2 a3 → m a0 a1 a2 a3 < n → wl_Mod_openSchema_42 post n a0 a1 a2 a3 := by
    intro n
    induction n with
    | zero => intro a0 a1 a2 a3 _ h; exact absurd h (Nat.not_lt_zero _)
    | succ n ih => intro a0 a1 a2 a3 h hm; exact step (wl_Mod_openSchema_42 post n) a0 a1 a2 a3 h (fun b0 b1 b2 b3 hb hlt => ih b0 b1 b2 b3 hb (Nat.lt_of_lt_of_le hlt (Nat.le_of_lt_succ hm)))
  exact fun a0 a1 a2 a3 h => ⟨_, key _ a0 a1 a2 a3 h (Nat.lt_succ_self _)⟩
theorem lp_Mod_readTold_185 {post : St → Prop} (I : Int32 → Int64 → Int32 → St → Prop) (m : Int32 → Int64 → Int32 → St → Nat)
    (step : ∀ (R : Int32 → Int64 → Int32 → St → Prop) (a0 : Int32) (a1 : Int64) (a2 : Int32) (a3 : St), I a0 a1 a2 a3 → (∀ (b0 : Int32) (b1 : Int64) (b2 : Int32) (b3 : St), I b0 b1 b2 b3 → m b0 b1 b2 b3 < m a0 a1 a2 a3 → R b0 b1 b2 b3) → j_Mod_readTold_185 post R a0 a1 a2 a3) :
    ∀ (a0 : Int32) (a1 : Int64) (a2 : Int32) (a3 : St), I a0 a1 a2 a3 → ∃ n : Nat, wl_Mod_readTold_185 post n a0 a1 a2 a3 := by
  have key : ∀ (n : Nat) (a0 : Int32) (a1 : Int64) (a2 : Int32) (a3 : St), I a0 a1 a2 a3 → m a0 a1 a2 a3 < n → wl_Mod_readTold_185 post n a0 a1 a2 a3 := by
    intro n
    induction n with
    | zero => intro a0 a1 a2 a3 _ h; exact absurd h (Nat.not_lt_zero _)
    | succ n ih => intro a0 a1 a2 a3 h hm; exact step (wl_Mod_readTold_185 post n) a0 a1 a2 a3 h (fun b0 b1 b2 b3 hb hlt => ih b0 b1 b2 b3 hb (Nat.lt_of_lt_of_le hlt (Nat.le_of_lt_succ hm)))
  exact fun a0 a1 a2 a3 h => ⟨_, key _ a0 a1 a2 a3 h (Nat.lt_succ_self _)⟩
theorem lp_Mod_poolAdd_37 {post : Int32 → St → Prop} (I : Int64 → Nat → Int32 → Int32 → Int32 → St → Prop) (m : Int64 → Nat → Int32 → Int32 → Int32 → St → Nat)
    (step : ∀ (R : Int64 → Nat → Int32 → Int32 → Int32 → St → Prop) (a0 : Int64) (a1 : Nat) (a2 : Int32) (a3 : Int32) (a4 : Int32) (a5 : St), I a0 a1 a2 a3 a4 a5 → (∀ (b0 : Int64) (b1 : Nat) (b2 : Int32) (b3 : Int32) (b4 : Int32) (b5 : St), I b0 b1 b2 b3 b4 b5 → m b0 b1 b2 b3 b4 b5 < m a0 a1 a2 a3 a4 a5 → R b0 b1 b2 b3 b4 b5) → j_Mod_poolAdd_37 post R a0 a1 a2 a3 a4 a5) :
    ∀ (a0 : Int64) (a1 : Nat) (a2 : Int32) (a3 : Int32) (a4 : Int32) (a5 : St), I a0 a1 a2 a3 a4 a5 → ∃ n : Nat, wl_Mod_poolAdd_37 post n a0 a1 a2 a3 a4 a5 := by
  have key : ∀ (n : Nat) (a0 : Int64) (a1 : Nat) (a2 : Int32) (a3 : Int32) (a4 : Int32) (a5 : St), I a0 a1 a2 a3 a4 a5 → m a0 a1 a2 a3 a4 a5 < n → wl_Mod_poolAdd_37 post n a0 a1 a2 a3 a4 a5 := by
    intro n
    induction n with
    | zero => intro a0 a1 a2 a3 a4 a5 _ h; exact absurd h (Nat.not_lt_zero _)
    | succ n ih => intro a0 a1 a2 a3 a4 a5 h hm; exact step (wl_Mod_poolAdd_37 post n) a0 a1 a2 a3 a4 a5 h (fun b0 b1 b2 b3 b4 b5 hb hlt => ih b0 b1 b2 b3 b4 b5 hb (Nat.lt_of_lt_of_le hlt (Nat.le_of_lt_succ hm)))
  exact fun a0 a1 a2 a3 a4 a5 h => ⟨_, key _ a0 a1 a2 a3 a4 a5 h (Nat.lt_succ_self _)⟩
theorem lp_Mod_openFooter_285 {post : St → Prop} {rec215 : Int32 → Int64 → Int32 → Int32 → Int32 → Int32 → Int64 → Int32 → St → Prop} (I : Int32 → Int64 → Int32 → Int32 → Int32 → Int32 → Int64 → Int32 → Int32 → St → Prop) (m : Int32 → Int64 → Int32 → Int32 → Int32 → Int32 → Int64 → Int32 → Int32 → St → Nat)
    (step : ∀ (R : Int32 → Int64 → Int32 → Int32 → Int32 → Int32 → Int64 → Int32 → Int32 → St → Prop) (a0 : Int32) (a1 : Int64) (a2 : Int32) (a3 : Int32) (a4 : Int32) (a5 : Int32) (a6 : Int64) (a7 : Int32) (a8 : Int32) (a9 : St), I a0 a1 a2 a3 a4 a5 a6 a7 a8 a9 → (∀ (b0 : Int32) (b1 : Int64) (b2 : Int32) (b3 : Int32) (b4 : Int32) (b5 : Int32) (b6 : Int64) (b7 : Int32) (b8 : Int32) (b9 : St), I b0 b1 b2 b3 b4 b5 b6 b7 b8 b9 → m b0 b1 b2 b3 b4 b5 b6 b7 b8 b9 < m a0 a1 a2 a3 a4 a5 a6 a7 a8 a9 → R b0 b1 b2 b3 b4 b5 b6 b7 b8 b9) → j_Mod_openFooter_285 post rec215 R a0 a1 a2 a3 a4 a5 a6 a7 a8 a9) :
    ∀ (a0 : Int32) (a1 : Int64) (a2 : Int32) (a3 : Int32) (a4 : Int32) (a5 : Int32) (a6 : Int64) (a7 : Int32) (a8 : Int32) (a9 : St), I a0 a1 a2 a3 a4 a5 a6 a7 a8 a9 → ∃ n : Nat, wl_Mod_openFooter_285 post rec215 n a0 a1 a2 a3 a4 a5 a6 a7 a8 a9 := by
  have key : ∀ (n : Nat) (a0 : Int32) (a1 : Int64) (a2 : Int32) (a3 : Int32) (a4 : Int32) (a5 : Int32) (a6 : Int64) (a7 : Int32) (a8 : Int32) (a9 : St), I a0 a1 a2 a3 a4 a5 a6 a7 a8 a9 → m a0 a1 a2 a3 a4 a5 a6 a7 a8 a9 < n → wl_Mod_openFooter_285 post rec215 n a0 a1 a2 a3 a4 a5 a6 a7 a8 a9 := by
    intro n
    induction n with
    | zero => intro a0 a1 a2 a3 a4 a5 a6 a7 a8 a9 _ h; exact absurd h (Nat.not_lt_zero _)
    | succ n ih => intro a0 a1 a2 a3 a4 a5 a6 a7 a8 a9 h hm; exact step (wl_Mod_openFooter_285 post rec215 n) a0 a1 a2 a3 a4 a5 a6 a7 a8 a9 h (fun b0 b1 b2 b3 b4 b5 b6 b7 b8 b9 hb hlt => ih b0 b1 b2 b3 b4 b5 b6 b7 b8 b9 hb (Nat.lt_of_lt_of_le hlt (Nat.le_of_lt_succ hm)))
  exact fun a0 a1 a2 a3 a4 a5 a6 a7 a8 a9 h => ⟨_, key _ a0 a1 a2 a3 a4 a5 a6 a7 a8 a9 h (Nat.lt_succ_self _)⟩
theorem lp_Mod_openFooter_215 {post : St → Prop} (I : Int32 → Int64 → Int32 → Int32 → Int32 → Int32 → Int64 → Int32 → St → Prop) (m : Int32 → Int64 → Int32 → Int32 → Int32 → Int32 → Int64 → Int32 → St → Nat)
    (step : ∀ (R : Int32 → Int64 → Int32 → Int32 → Int32 → Int32 → Int64 → Int32 → St → Prop) (a0 : Int32) (a1 : Int64) (a2 : Int32) (a3 : Int32) (a4 : Int32) (a5 : Int32) (a6 : Int64) (a7 : Int32) (a8 : St), I a0 a1 a2 a3 a4 a5 a6 a7 a8 → (∀ (b0 : Int32) (b1 : Int64) (b2 : Int32) (b3 : Int32) (b4 : Int32) (b5 : Int32) (b6 : Int64) (b7 : Int32) (b8 : St), I b0 b1 b2 b3 b4 b5 b6 b7 b8 → m b0 b1 b2 b3 b4 b5 b6 b7 b8 < m a0 a1 a2 a3 a4 a5 a6 a7 a8 → R b0 b1 b2 b3 b4 b5 b6 b7 b8) → j_Mod_openFooter_215 post R a0 a1 a2 a3 a4 a5 a6 a7 a8) :
    ∀ (a0 : Int32) (a1 : Int64) (a2 : Int32) (a3 : Int32) (a4 : Int32) (a5 : Int32) (a6 : Int64) (a7 : Int32) (a8 : St), I a0 a1 a2 a3 a4 a5 a6 a7 a8 → ∃ n : Nat, wl_Mod_openFooter_215 post n a0 a1 a2 a3 a4 a5 a6 a7 a8 := by
  have key : ∀ (n : Nat) (a0 : Int32) (a1 : Int64) (a2 : Int32) (a3 : Int32) (a4 : Int32) (a5 : Int32) (a6 : Int64) (a7 : Int32) (a8 : St), I a0 a1 a2 a3 a4 a5 a6 a7 a8 → m a0 a1 a2 a3 a4 a5 a6 a7 a8 < n → wl_Mod_openFooter_215 post n a0 a1 a2 a3 a4 a5 a6 a7 a8 := by
    intro n
    induction n with
    | zero => intro a0 a1 a2 a3 a4 a5 a6 a7 a8 _ h; exact absurd h (Nat.not_lt_zero _)
    | succ n ih => intro a0 a1 a2 a3 a4 a5 a6 a7 a8 h hm; exact step (wl_Mod_openFooter_215 post n) a0 a1 a2 a3 a4 a5 a6 a7 a8 h (fun b0 b1 b2 b3 b4 b5 b6 b7 b8 hb hlt => ih b0 b1 b2 b3 b4 b5 b6 b7 b8 hb (Nat.lt_of_lt_of_le hlt (Nat.le_of_lt_succ hm)))
  exact fun a0 a1 a2 a3 a4 a5 a6 a7 a8 h => ⟨_, key _ a0 a1 a2 a3 a4 a5 a6 a7 a8 h (Nat.lt_succ_self _)⟩
theorem lp_Mod_bitsAt_6 {post : Int32 → St → Prop} (I : Int32 → Int32 → Int32 → Int32 → Int32 → St → Prop) (m : Int32 → Int32 → Int32 → Int32 → Int32 → St → Nat)
    (step : ∀ (R : Int32 → Int32 → Int32 → Int32 → Int32 → St → Prop) (a0 : Int32) (a1 : Int32) (a2 : Int32) (a3 : Int32) (a4 : Int32) (a5 : St), I a0 a1 a2 a3 a4 a5 → (∀ (b0 : Int32) (b1 : Int32) (b2 : Int32) (b3 : Int32) (b4 : Int32) (b5 : St), I b0 b1 b2 b3 b4 b5 → m b0 b1 b2 b3 b4 b5 < m a0 a1 a2 a3 a4 a5 → R b0 b1 b2 b3 b4 b5) → j_Mod_bitsAt_6 post R a0 a1 a2 a3 a4 a5) :
    ∀ (a0 : Int32) (a1 : Int32) (a2 : Int32) (a3 : Int32) (a4 : Int32) (a5 : St), I a0 a1 a2 a3 a4 a5 → ∃ n : Nat, wl_Mod_bitsAt_6 post n a0 a1 a2 a3 a4 a5 := by
  have key : ∀ (n : Nat) (a0 : Int32) (a1 : Int32) (a2 : Int32) (a3 : Int32) (a4 : Int32) (a5 : St), I a0 a1 a2 a3 a4 a5 → m a0 a1 a2 a3 a4 a5 < n → wl_Mod_bitsAt_6 post n a0 a1 a2 a3 a4 a5 := by
    intro n
    induction n with
    | zero => intro a0 a1 a2 a3 a4 a5 _ h; exact absurd h (Nat.not_lt_zero _)
    | succ n ih => intro a0 a1 a2 a3 a4 a5 h hm; exact step (wl_Mod_bitsAt_6 post n) a0 a1 a2 a3 a4 a5 h (fun b0 b1 b2 b3 b4 b5 hb hlt => ih b0 b1 b2 b3 b4 b5 hb (Nat.lt_of_lt_of_le hlt (Nat.le_of_lt_succ hm)))
  exact fun a0 a1 a2 a3 a4 a5 h => ⟨_, key _ a0 a1 a2 a3 a4 a5 h (Nat.lt_succ_self _)⟩
theorem lp_Mod_readOne_133 {post : Int32 → St → Prop} (I : Nat → Int32 → Int32 → Int32 → Int32 → Int64 → Int32 → Int32 → Int32 → St → Prop) (m : Nat → Int32 → Int32 → Int32 → Int32 → Int64 → Int32 → Int32 → Int32 → St → Nat)
    (step : ∀ (R : Nat → Int32 → Int32 → Int32 → Int32 → Int64 → Int32 → Int32 → Int32 → St → Prop) (a0 : Nat) (a1 : Int32) (a2 : Int32) (a3 : Int32) (a4 : Int32) (a5 : Int64) (a6 : Int32) (a7 : Int32) (a8 : Int32) (a9 : St), I a0 a1 a2 a3 a4 a5 a6 a7 a8 a9 → (∀ (b0 : Nat) (b1 : Int32) (b2 : Int32) (b3 : Int32) (b4 : Int32) (b5 : Int64) (b6 : Int32) (b7 : Int32) (b8 : Int32) (b9 : St), I b0 b1 b2 b3 b4 b5 b6 b7 b8 b9 → m b0 b1 b2 b3 b4 b5 b6 b7 b8 b9 < m a0 a1 a2 a3 a4 a5 a6 a7 a8 a9 → R b0 b1 b2 b3 b4 b5 b6 b7 b8 b9) → j_Mod_readOne_133 post R a0 a1 a2 a3 a4 a5 a6 a7 a8 a9) :
    ∀ (a0 : Nat) (a1 : Int32) (a2 : Int32) (a3 : Int32) (a4 : Int32) (a5 : Int64) (a6 : Int32) (a7 : Int32) (a8 : Int32) (a9 : St), I a0 a1 a2 a3 a4 a5 a6 a7 a8 a9 → ∃ n : Nat, wl_Mod_readOne_133 post n a0 a1 a2 a3 a4 a5 a6 a7 a8 a9 := by
  have key : ∀ (n : Nat) (a0 : Nat) (a1 : Int32) (a2 : Int32) (a3 : Int32) (a4 : Int32) (a5 : Int64) (a6 : Int32) (a7 : Int32) (a8 : Int32) (a9 : St), I a0 a1 a2 a3 a4 a5 a6 a7 a8 a9 → m a0 a1 a2 a3 a4 a5 a6 a7 a8 a9 < n → wl_Mod_readOne_133 post n a0 a1 a2 a3 a4 a5 a6 a7 a8 a9 := by
    intro n
    induction n with
    | zero => intro a0 a1 a2 a3 a4 a5 a6 a7 a8 a9 _ h; exact absurd h (Nat.not_lt_zero _)
    | succ n ih => intro a0 a1 a2 a3 a4 a5 a6 a7 a8 a9 h hm; exact step (wl_Mod_readOne_133 post n) a0 a1 a2 a3 a4 a5 a6 a7 a8 a9 h (fun b0 b1 b2 b3 b4 b5 b6 b7 b8 b9 hb hlt => ih b0 b1 b2 b3 b4 b5 b6 b7 b8 b9 hb (Nat.lt_of_lt_of_le hlt (Nat.le_of_lt_succ hm)))
  exact fun a0 a1 a2 a3 a4 a5 a6 a7 a8 a9 h => ⟨_, key _ a0 a1 a2 a3 a4 a5 a6 a7 a8 a9 h (Nat.lt_succ_self _)⟩
theorem lp_Mod_readOne_71 {post : Int32 → St → Prop} (I : Nat → Int32 → Int32 → Int32 → Int32 → Int64 → Int32 → Int32 → Int32 → St → Prop) (m : Nat → Int32 → Int32 → Int32 → Int32 → Int64 → Int32 → Int32 → Int32 → St → Nat)
    (step : ∀ (R : Nat → Int32 → Int32 → Int32 → Int32 → Int64 → Int32 → Int32 → Int32 → St → Prop) (a0 : Nat) (a1 : Int32) (a2 : Int32) (a3 : Int32) (a4 : Int32) (a5 : Int64) (a6 : Int32) (a7 : Int32) (a8 : Int32) (a9 : St), I a0 a1 a2 a3 a4 a5 a6 a7 a8 a9 → (∀ (b0 : Nat) (b1 : Int32) (b2 : Int32) (b3 : Int32) (b4 : Int32) (b5 : Int64) (b6 : Int32) (b7 : Int32) (b8 : Int32) (b9 : St), I b0 b1 b2 b3 b4 b5 b6 b7 b8 b9 → m b0 b1 b2 b3 b4 b5 b6 b7 b8 b9 < m a0 a1 a2 a3 a4 a5 a6 a7 a8 a9 → R b0 b1 b2 b3 b4 b5 b6 b7 b8 b9) → j_Mod_readOne_71 post R a0 a1 a2 a3 a4 a5 a6 a7 a8 a9) :
    ∀ (a0 : Nat) (a1 : Int32) (a2 : Int32) (a3 : Int32) (a4 : Int32) (a5 : Int64) (a6 : Int32) (a7 : Int32) (a8 : Int32) (a9 : St), I a0 a1 a2 a3 a4 a5 a6 a7 a8 a9 → ∃ n : Nat, wl_Mod_readOne_71 post n a0 a1 a2 a3 a4 a5 a6 a7 a8 a9 := by
  have key : ∀ (n : Nat) (a0 : Nat) (a1 : Int32) (a2 : Int32) (a3 : Int32) (a4 : Int32) (a5 : Int64) (a6 : Int32) (a7 : Int32) (a8 : Int32) (a9 : St), I a0 a1 a2 a3 a4 a5 a6 a7 a8 a9 → m a0 a1 a2 a3 a4 a5 a6 a7 a8 a9 < n → wl_Mod_readOne_71 post n a0 a1 a2 a3 a4 a5 a6 a7 a8 a9 := by
    intro n
    induction n with
    | zero => intro a0 a1 a2 a3 a4 a5 a6 a7 a8 a9 _ h; exact absurd h (Nat.not_lt_zero _)
    | succ n ih => intro a0 a1 a2 a3 a4 a5 a6 a7 a8 a9 h hm; exact step (wl_Mod_readOne_71 post n) a0 a1 a2 a3 a4 a5 a6 a7 a8 a9 h (fun b0 b1 b2 b3 b4 b5 b6 b7 b8 b9 hb hlt => ih b0 b1 b2 b3 b4 b5 b6 b7 b8 b9 hb (Nat.lt_of_lt_of_le hlt (Nat.le_of_lt_succ hm)))
  exact fun a0 a1 a2 a3 a4 a5 a6 a7 a8 a9 h => ⟨_, key _ a0 a1 a2 a3 a4 a5 a6 a7 a8 a9 h (Nat.lt_succ_self _)⟩
theorem lp_Mod_readGroups_59 {post : Int32 → St → Prop} (I : Nat → Int32 → Int32 → Int32 → Int32 → Int64 → Int32 → St → Prop) (m : Nat → Int32 → Int32 → Int32 → Int32 → Int64 → Int32 → St → Nat)
    (step : ∀ (R : Nat → Int32 → Int32 → Int32 → Int32 → Int64 → Int32 → St → Prop) (a0 : Nat) (a1 : Int32) (a2 : Int32) (a3 : Int32) (a4 : Int32) (a5 : Int64) (a6 : Int32) (a7 : St), I a0 a1 a2 a3 a4 a5 a6 a7 → (∀ (b0 : Nat) (b1 : Int32) (b2 : Int32) (b3 : Int32) (b4 : Int32) (b5 : Int64) (b6 : Int32) (b7 : St), I b0 b1 b2 b3 b4 b5 b6 b7 → m b0 b1 b2 b3 b4 b5 b6 b7 < m a0 a1 a2 a3 a4 a5 a6 a7 → R b0 b1 b2 b3 b4 b5 b6 b7) → j_Mod_readGroups_59 post R a0 a1 a2 a3 a4 a5 a6 a7) :
    ∀ (a0 : Nat) (a1 : Int32) (a2 : Int32) (a3 : Int32) (a4 : Int32) (a5 : Int64) (a6 : Int32) (a7 : St), I a0 a1 a2 a3 a4 a5 a6 a7 → ∃ n : Nat, wl_Mod_readGroups_59 post n a0 a1 a2 a3 a4 a5 a6 a7 := by
  have key : ∀ (n : Nat) (a0 : Nat) (a1 : Int32) (a2 : Int32) (a3 : Int32) (a4 : Int32) (a5 : Int64) (a6 : Int32) (a7 : St), I a0 a1 a2 a3 a4 a5 a6 a7 → m a0 a1 a2 a3 a4 a5 a6 a7 < n → wl_Mod_readGroups_59 post n a0 a1 a2 a3 a4 a5 a6 a7 := by
    intro n
    induction n with
    | zero => intro a0 a1 a2 a3 a4 a5 a6 a7 _ h; exact absurd h (Nat.not_lt_zero _)
    | succ n ih => intro a0 a1 a2 a3 a4 a5 a6 a7 h hm; exact step (wl_Mod_readGroups_59 post n) a0 a1 a2 a3 a4 a5 a6 a7 h (fun b0 b1 b2 b3 b4 b5 b6 b7 hb hlt => ih b0 b1 b2 b3 b4 b5 b6 b7 hb (Nat.lt_of_lt_of_le hlt (Nat.le_of_lt_succ hm)))
  exact fun a0 a1 a2 a3 a4 a5 a6 a7 h => ⟨_, key _ a0 a1 a2 a3 a4 a5 a6 a7 h (Nat.lt_succ_self _)⟩
theorem lp_Mod_readRuns_3 {post : St → Prop} (I : Nat → Int32 → Int32 → Int32 → Int32 → St → Prop) (m : Nat → Int32 → Int32 → Int32 → Int32 → St → Nat)
    (step : ∀ (R : Nat → Int32 → Int32 → Int32 → Int32 → St → Prop) (a0 : Nat) (a1 : Int32) (a2 : Int32) (a3 : Int32) (a4 : Int32) (a5 : St), I a0 a1 a2 a3 a4 a5 → (∀ (b0 : Nat) (b1 : Int32) (b2 : Int32) (b3 : Int32) (b4 : Int32) (b5 : St), I b0 b1 b2 b3 b4 b5 → m b0 b1 b2 b3 b4 b5 < m a0 a1 a2 a3 a4 a5 → R b0 b1 b2 b3 b4 b5) → j_Mod_readRuns_3 post R a0 a1 a2 a3 a4 a5) :
    ∀ (a0 : Nat) (a1 : Int32) (a2 : Int32) (a3 : Int32) (a4 : Int32) (a5 : St), I a0 a1 a2 a3 a4 a5 → ∃ n : Nat, wl_Mod_readRuns_3 post n a0 a1 a2 a3 a4 a5 := by
  have key : ∀ (n : Nat) (a0 : Nat) (a1 : Int32) (a2 : Int32) (a3 : Int32) (a4 : Int32) (a5 : St), I a0 a1 a2 a3 a4 a5 → m a0 a1 a2 a3 a4 a5 < n → wl_Mod_readRuns_3 post n a0 a1 a2 a3 a4 a5 := by
    intro n
    induction n with
    | zero => intro a0 a1 a2 a3 a4 a5 _ h; exact absurd h (Nat.not_lt_zero _)
    | succ n ih => intro a0 a1 a2 a3 a4 a5 h hm; exact step (wl_Mod_readRuns_3 post n) a0 a1 a2 a3 a4 a5 h (fun b0 b1 b2 b3 b4 b5 hb hlt => ih b0 b1 b2 b3 b4 b5 hb (Nat.lt_of_lt_of_le hlt (Nat.le_of_lt_succ hm)))
  exact fun a0 a1 a2 a3 a4 a5 h => ⟨_, key _ a0 a1 a2 a3 a4 a5 h (Nat.lt_succ_self _)⟩
theorem lp_Mod_readLevels_150 {post : St → Prop} (I : Nat → Int32 → Int32 → Int64 → Int32 → Int32 → Int32 → St → Prop) (m : Nat → Int32 → Int32 → Int64 → Int32 → Int32 → Int32 → St → Nat)
    (step : ∀ (R : Nat → Int32 → Int32 → Int64 → Int32 → Int32 → Int32 → St → Prop) (a0 : Nat) (a1 : Int32) (a2 : Int32) (a3 : Int64) (a4 : Int32) (a5 : Int32) (a6 : Int32) (a7 : St), I a0 a1 a2 a3 a4 a5 a6 a7 → (∀ (b0 : Nat) (b1 : Int32) (b2 : Int32) (b3 : Int64) (b4 : Int32) (b5 : Int32) (b6 : Int32) (b7 : St), I b0 b1 b2 b3 b4 b5 b6 b7 → m b0 b1 b2 b3 b4 b5 b6 b7 < m a0 a1 a2 a3 a4 a5 a6 a7 → R b0 b1 b2 b3 b4 b5 b6 b7) → j_Mod_readLevels_150 post R a0 a1 a2 a3 a4 a5 a6 a7) :
    ∀ (a0 : Nat) (a1 : Int32) (a2 : Int32) (a3 : Int64) (a4 : Int32) (a5 : Int32) (a6 : Int32) (a7 : St), I a0 a1 a2 a3 a4 a5 a6 a7 → ∃ n : Nat, wl_Mod_readLevels_150 post n a0 a1 a2 a3 a4 a5 a6 a7 := by
  have key : ∀ (n : Nat) (a0 : Nat) (a1 : Int32) (a2 : Int32) (a3 : Int64) (a4 : Int32) (a5 : Int32) (a6 : Int32) (a7 : St), I a0 a1 a2 a3 a4 a5 a6 a7 → m a0 a1 a2 a3 a4 a5 a6 a7 < n → wl_Mod_readLevels_150 post n a0 a1 a2 a3 a4 a5 a6 a7 := by
    intro n
    induction n with
    | zero => intro a0 a1 a2 a3 a4 a5 a6 a7 _ h; exact absurd h (Nat.not_lt_zero _)
    | succ n ih => intro a0 a1 a2 a3 a4 a5 a6 a7 h hm; exact step (wl_Mod_readLevels_150 post n) a0 a1 a2 a3 a4 a5 a6 a7 h (fun b0 b1 b2 b3 b4 b5 b6 b7 hb hlt => ih b0 b1 b2 b3 b4 b5 b6 b7 hb (Nat.lt_of_lt_of_le hlt (Nat.le_of_lt_succ hm)))
  exact fun a0 a1 a2 a3 a4 a5 a6 a7 h => ⟨_, key _ a0 a1 a2 a3 a4 a5 a6 a7 h (Nat.lt_succ_self _)⟩
theorem lp_Mod_readLevels_102 {post : St → Prop} (I : Nat → Int32 → Int32 → Int64 → Int32 → Int32 → St → Prop) (m : Nat → Int32 → Int32 → Int64 → Int32 → Int32 → St → Nat)
    (step : ∀ (R : Nat → Int32 → Int32 → Int64 → Int32 → Int32 → St → Prop) (a0 : Nat) (a1 : Int32) (a2 : Int32) (a3 : Int64) (a4 : Int32) (a5 : Int32) (a6 : St), I a0 a1 a2 a3 a4 a5 a6 → (∀ (b0 : Nat) (b1 : Int32) (b2 : Int32) (b3 : Int64) (b4 : Int32) (b5 : Int32) (b6 : St), I b0 b1 b2 b3 b4 b5 b6 → m b0 b1 b2 b3 b4 b5 b6 < m a0 a1 a2 a3 a4 a5 a6 → R b0 b1 b2 b3 b4 b5 b6) → j_Mod_readLevels_102 post R a0 a1 a2 a3 a4 a5 a6) :
    ∀ (a0 : Nat) (a1 : Int32) (a2 : Int32) (a3 : Int64) (a4 : Int32) (a5 : Int32) (a6 : St), I a0 a1 a2 a3 a4 a5 a6 → ∃ n : Nat, wl_Mod_readLevels_102 post n a0 a1 a2 a3 a4 a5 a6 := by
  have key : ∀ (n : Nat) (a0 : Nat) (a1 : Int32) (a2 : Int32) (a3 : Int64) (a4 : Int32) (a5 : Int32) (a6 : St), I a0 a1 a2 a3 a4 a5 a6 → m a0 a1 a2 a3 a4 a5 a6 < n → wl_Mod_readLevels_102 post n a0 a1 a2 a3 a4 a5 a6 := by
    intro n
    induction n with
    | zero => intro a0 a1 a2 a3 a4 a5 a6 _ h; exact absurd h (Nat.not_lt_zero _)
    | succ n ih => intro a0 a1 a2 a3 a4 a5 a6 h hm; exact step (wl_Mod_readLevels_102 post n) a0 a1 a2 a3 a4 a5 a6 h (fun b0 b1 b2 b3 b4 b5 b6 hb hlt => ih b0 b1 b2 b3 b4 b5 b6 hb (Nat.lt_of_lt_of_le hlt (Nat.le_of_lt_succ hm)))
  exact fun a0 a1 a2 a3 a4 a5 a6 h => ⟨_, key _ a0 a1 a2 a3 a4 a5 a6 h (Nat.lt_succ_self _)⟩
theorem lp_Mod_readLevels_3 {post : St → Prop} (I : Nat → Int32 → Int32 → Int32 → St → Prop) (m : Nat → Int32 → Int32 → Int32 → St → Nat)
    (step : ∀ (R : Nat → Int32 → Int32 → Int32 → St → Prop) (a0 : Nat) (a1 : Int32) (a2 : Int32) (a3 : Int32) (a4 : St), I a0 a1 a2 a3 a4 → (∀ (b0 : Nat) (b1 : Int32) (b2 : Int32) (b3 : Int32) (b4 : St), I b0 b1 b2 b3 b4 → m b0 b1 b2 b3 b4 < m a0 a1 a2 a3 a4 → R b0 b1 b2 b3 b4) → j_Mod_readLevels_3 post R a0 a1 a2 a3 a4) :
    ∀ (a0 : Nat) (a1 : Int32) (a2 : Int32) (a3 : Int32) (a4 : St), I a0 a1 a2 a3 a4 → ∃ n : Nat, wl_Mod_readLevels_3 post n a0 a1 a2 a3 a4 := by
  have key : ∀ (n : Nat) (a0 : Nat) (a1 : Int32) (a2 : Int32) (a3 : Int32) (a4 : St), I a0 a1 a2 a3 a4 → m a0 a1 a2 a3 a4 < n → wl_Mod_readLevels_3 post n a0 a1 a2 a3 a4 := by
    intro n
    induction n with
    | zero => intro a0 a1 a2 a3 a4 _ h; exact absurd h (Nat.not_lt_zero _)
    | succ n ih => intro a0 a1 a2 a3 a4 h hm; exact step (wl_Mod_readLevels_3 post n) a0 a1 a2 a3 a4 h (fun b0 b1 b2 b3 b4 hb hlt => ih b0 b1 b2 b3 b4 hb (Nat.lt_of_lt_of_le hlt (Nat.le_of_lt_succ hm)))
  exact fun a0 a1 a2 a3 a4 h => ⟨_, key _ a0 a1 a2 a3 a4 h (Nat.lt_succ_self _)⟩
theorem lp_Mod_readBools_103 {post : St → Prop} (I : Int32 → Int32 → Int32 → St → Prop) (m : Int32 → Int32 → Int32 → St → Nat)
    (step : ∀ (R : Int32 → Int32 → Int32 → St → Prop) (a0 : Int32) (a1 : Int32) (a2 : Int32) (a3 : St), I a0 a1 a2 a3 → (∀ (b0 : Int32) (b1 : Int32) (b2 : Int32) (b3 : St), I b0 b1 b2 b3 → m b0 b1 b2 b3 < m a0 a1 a2 a3 → R b0 b1 b2 b3) → j_Mod_readBools_103 post R a0 a1 a2 a3) :
    ∀ (a0 : Int32) (a1 : Int32) (a2 : Int32) (a3 : St), I a0 a1 a2 a3 → ∃ n : Nat, wl_Mod_readBools_103 post n a0 a1 a2 a3 := by
  have key : ∀ (n : Nat) (a0 : Int32) (a1 : Int32) (a2 : Int32) (a3 : St), I a0 a1 a2 a3 → m a0 a1 a2 a3 < n → wl_Mod_readBools_103 post n a0 a1 a2 a3 := by
    intro n
    induction n with
    | zero => intro a0 a1 a2 a3 _ h; exact absurd h (Nat.not_lt_zero _)
    | succ n ih => intro a0 a1 a2 a3 h hm; exact step (wl_Mod_readBools_103 post n) a0 a1 a2 a3 h (fun b0 b1 b2 b3 hb hlt => ih b0 b1 b2 b3 hb (Nat.lt_of_lt_of_le hlt (Nat.le_of_lt_succ hm)))
  exact fun a0 a1 a2 a3 h => ⟨_, key _ a0 a1 a2 a3 h (Nat.lt_succ_self _)⟩
theorem lp_Mod_readBools_45 {post : St → Prop} (I : Int32 → Int32 → Int32 → St → Prop) (m : Int32 → Int32 → Int32 → St → Nat)
    (step : ∀ (R : Int32 → Int32 → Int32 → St → Prop) (a0 : Int32) (a1 : Int32) (a2 : Int32) (a3 : St), I a0 a1 a2 a3 → (∀ (b0 : Int32) (b1 : Int32) (b2 : Int32) (b3 : St), I b0 b1 b2 b3 → m b0 b1 b2 b3 < m a0 a1 a2 a3 → R b0 b1 b2 b3) → j_Mod_readBools_45 post R a0 a1 a2 a3) :
    ∀ (a0 : Int32) (a1 : Int32) (a2 : Int32) (a3 : St), I a0 a1 a2 a3 → ∃ n : Nat, wl_Mod_readBools_45 post n a0 a1 a2 a3 := by
  have key : ∀ (n : Nat) (a0 : Int32) (a1 : Int32) (a2 : Int32) (a3 : St), I a0 a1 a2 a3 → m a0 a1 a2 a3 < n → wl_Mod_readBools_45 post n a0 a1 a2 a3 := by
    intro n
    induction n with
    | zero => intro a0 a1 a2 a3 _ h; exact absurd h (Nat.not_lt_zero _)
    | succ n ih => intro a0 a1 a2 a3 h hm; exact step (wl_Mod_readBools_45 post n) a0 a1 a2 a3 h (fun b0 b1 b2 b3 hb hlt => ih b0 b1 b2 b3 hb (Nat.lt_of_lt_of_le hlt (Nat.le_of_lt_succ hm)))
  exact fun a0 a1 a2 a3 h => ⟨_, key _ a0 a1 a2 a3 h (Nat.lt_succ_self _)⟩
theorem lp_Mod_takeText_110 {post : St → Prop} (I : Int32 → Int32 → Int32 → Int32 → St → Prop) (m : Int32 → Int32 → Int32 → Int32 → St → Nat)
    (step : ∀ (R : Int32 → Int32 → Int32 → Int32 → St → Prop) (a0 : Int32) (a1 : Int32) (a2 : Int32) (a3 : Int32) (a4 : St), I a0 a1 a2 a3 a4 → (∀ (b0 : Int32) (b1 : Int32) (b2 : Int32) (b3 : Int32) (b4 : St), I b0 b1 b2 b3 b4 → m b0 b1 b2 b3 b4 < m a0 a1 a2 a3 a4 → R b0 b1 b2 b3 b4) → j_Mod_takeText_110 post R a0 a1 a2 a3 a4) :
    ∀ (a0 : Int32) (a1 : Int32) (a2 : Int32) (a3 : Int32) (a4 : St), I a0 a1 a2 a3 a4 → ∃ n : Nat, wl_Mod_takeText_110 post n a0 a1 a2 a3 a4 := by
  have key : ∀ (n : Nat) (a0 : Int32) (a1 : Int32) (a2 : Int32) (a3 : Int32) (a4 : St), I a0 a1 a2 a3 a4 → m a0 a1 a2 a3 a4 < n → wl_Mod_takeText_110 post n a0 a1 a2 a3 a4 := by
    intro n
    induction n with
    | zero => intro a0 a1 a2 a3 a4 _ h; exact absurd h (Nat.not_lt_zero _)
    | succ n ih => intro a0 a1 a2 a3 a4 h hm; exact step (wl_Mod_takeText_110 post n) a0 a1 a2 a3 a4 h (fun b0 b1 b2 b3 b4 hb hlt => ih b0 b1 b2 b3 b4 hb (Nat.lt_of_lt_of_le hlt (Nat.le_of_lt_succ hm)))
  exact fun a0 a1 a2 a3 a4 h => ⟨_, key _ a0 a1 a2 a3 a4 h (Nat.lt_succ_self _)⟩
theorem lp_Mod_takeText_67 {post : St → Prop} (I : Int32 → Int32 → Int32 → Int32 → St → Prop) (m : Int32 → Int32 → Int32 → Int32 → St → Nat)
    (step : ∀ (R : Int32 → Int32 → Int32 → Int32 → St → Prop) (a0 : Int32) (a1 : Int32) (a2 : Int32) (a3 : Int32) (a4 : St), I a0 a1 a2 a3 a4 → (∀ (b0 : Int32) (b1 : Int32) (b2 : Int32) (b3 : Int32) (b4 : St), I b0 b1 b2 b3 b4 → m b0 b1 b2 b3 b4 < m a0 a1 a2 a3 a4 → R b0 b1 b2 b3 b4) → j_Mod_takeText_67 post R a0 a1 a2 a3 a4) :
    ∀ (a0 : Int32) (a1 : Int32) (a2 : Int32) (a3 : Int32) (a4 : St), I a0 a1 a2 a3 a4 → ∃ n : Nat, wl_Mod_takeText_67 post n a0 a1 a2 a3 a4 := by
  have key : ∀ (n : Nat) (a0 : Int32) (a1 : Int32) (a2 : Int32) (a3 : Int32) (a4 : St), I a0 a1 a2 a3 a4 → m a0 a1 a2 a3 a4 < n → wl_Mod_takeText_67 post n a0 a1 a2 a3 a4 := by
    intro n
    induction n with
    | zero => intro a0 a1 a2 a3 a4 _ h; exact absurd h (Nat.not_lt_zero _)
    | succ n ih => intro a0 a1 a2 a3 a4 h hm; exact step (wl_Mod_takeText_67 post n) a0 a1 a2 a3 a4 h (fun b0 b1 b2 b3 b4 hb hlt => ih b0 b1 b2 b3 b4 hb (Nat.lt_of_lt_of_le hlt (Nat.le_of_lt_succ hm)))
  exact fun a0 a1 a2 a3 a4 h => ⟨_, key _ a0 a1 a2 a3 a4 h (Nat.lt_succ_self _)⟩
theorem lp_Mod_readPlain_2 {post : St → Prop} (I : Int32 → Int32 → St → Prop) (m : Int32 → Int32 → St → Nat)
    (step : ∀ (R : Int32 → Int32 → St → Prop) (a0 : Int32) (a1 : Int32) (a2 : St), I a0 a1 a2 → (∀ (b0 : Int32) (b1 : Int32) (b2 : St), I b0 b1 b2 → m b0 b1 b2 < m a0 a1 a2 → R b0 b1 b2) → j_Mod_readPlain_2 post R a0 a1 a2) :
    ∀ (a0 : Int32) (a1 : Int32) (a2 : St), I a0 a1 a2 → ∃ n : Nat, wl_Mod_readPlain_2 post n a0 a1 a2 := by
  have key : ∀ (n : Nat) (a0 : Int32) (a1 : Int32) (a2 : St), I a0 a1 a2 → m a0 a1 a2 < n → wl_Mod_readPlain_2 post n a0 a1 a2 := by
    intro n
    induction n with
    | zero => intro a0 a1 a2 _ h; exact absurd h (Nat.not_lt_zero _)
    | succ n ih => intro a0 a1 a2 h hm; exact step (wl_Mod_readPlain_2 post n) a0 a1 a2 h (fun b0 b1 b2 hb hlt => ih b0 b1 b2 hb (Nat.lt_of_lt_of_le hlt (Nat.le_of_lt_succ hm)))
  exact fun a0 a1 a2 h => ⟨_, key _ a0 a1 a2 h (Nat.lt_succ_self _)⟩
theorem lp_Mod_readBlock_187 {post : St → Prop} {rec109 : Int32 → Int32 → Int32 → Int64 → Int32 → Int32 → St → Prop} {rec166 : Int32 → Int32 → Int32 → Int64 → Int32 → Int32 → Int32 → Int32 → St → Prop} (I : Int32 → Int32 → Int32 → Int64 → Int32 → Int32 → Int32 → Int32 → Int64 → Int32 → St → Prop) (m : Int32 → Int32 → Int32 → Int64 → Int32 → Int32 → Int32 → Int32 → Int64 → Int32 → St → Nat)
    (step : ∀ (R : Int32 → Int32 → Int32 → Int64 → Int32 → Int32 → Int32 → Int32 → Int64 → Int32 → St → Prop) (a0 : Int32) (a1 : Int32) (a2 : Int32) (a3 : Int64) (a4 : Int32) (a5 : Int32) (a6 : Int32) (a7 : Int32) (a8 : Int64) (a9 : Int32) (a10 : St), I a0 a1 a2 a3 a4 a5 a6 a7 a8 a9 a10 → (∀ (b0 : Int32) (b1 : Int32) (b2 : Int32) (b3 : Int64) (b4 : Int32) (b5 : Int32) (b6 : Int32) (b7 : Int32) (b8 : Int64) (b9 : Int32) (b10 : St), I b0 b1 b2 b3 b4 b5 b6 b7 b8 b9 b10 → m b0 b1 b2 b3 b4 b5 b6 b7 b8 b9 b10 < m a0 a1 a2 a3 a4 a5 a6 a7 a8 a9 a10 → R b0 b1 b2 b3 b4 b5 b6 b7 b8 b9 b10) → j_Mod_readBlock_187 post rec109 rec166 R a0 a1 a2 a3 a4 a5 a6 a7 a8 a9 a10) :
    ∀ (a0 : Int32) (a1 : Int32) (a2 : Int32) (a3 : Int64) (a4 : Int32) (a5 : Int32) (a6 : Int32) (a7 : Int32) (a8 : Int64) (a9 : Int32) (a10 : St), I a0 a1 a2 a3 a4 a5 a6 a7 a8 a9 a10 → ∃ n : Nat, wl_Mod_readBlock_187 post rec109 rec166 n a0 a1 a2 a3 a4 a5 a6 a7 a8 a9 a10 := by
  have key : ∀ (n : Nat) (a0 : Int32) (a1 : Int32) (a2 : Int32) (a3 : Int64) (a4 : Int32) (a5 : Int32) (a6 : Int32) (a7 : Int32) (a8 : Int64) (a9 : Int32) (a10 : St), I a0 a1 a2 a3 a4 a5 a6 a7 a8 a9 a10 → m a0 a1 a2 a3 a4 a5 a6 a7 a8 a9 a10 < n → wl_Mod_readBlock_187 post rec109 rec166 n a0 a1 a2 a3 a4 a5 a6 a7 a8 a9 a10 := by
    intro n
    induction n with
    | zero => intro a0 a1 a2 a3 a4 a5 a6 a7 a8 a9 a10 _ h; exact absurd h (Nat.not_lt_zero _)
    | succ n ih => intro a0 a1 a2 a3 a4 a5 a6 a7 a8 a9 a10 h hm; exact step (wl_Mod_readBlock_187 post rec109 rec166 n) a0 a1 a2 a3 a4 a5 a6 a7 a8 a9 a10 h (fun b0 b1 b2 b3 b4 b5 b6 b7 b8 b9 b10 hb hlt => ih b0 b1 b2 b3 b4 b5 b6 b7 b8 b9 b10 hb (Nat.lt_of_lt_of_le hlt (Nat.le_of_lt_succ hm)))
  exact fun a0 a1 a2 a3 a4 a5 a6 a7 a8 a9 a10 h => ⟨_, key _ a0 a1 a2 a3 a4 a5 a6 a7 a8 a9 a10 h (Nat.lt_succ_self _)⟩
theorem lp_Mod_readBlock_166 {post : St → Prop} {rec109 : Int32 → Int32 → Int32 → Int64 → Int32 → Int32 → St → Prop} (I : Int32 → Int32 → Int32 → Int64 → Int32 → Int32 → Int32 → Int32 → St → Prop) (m : Int32 → Int32 → Int32 → Int64 → Int32 → Int32 → Int32 → Int32 → St → Nat)
    (step : ∀ (R : Int32 → Int32 → Int32 → Int64 → Int32 → Int32 → Int32 → Int32 → St → Prop) (a0 : Int32) (a1 : Int32) (a2 : Int32) (a3 : Int64) (a4 : Int32) (a5 : Int32) (a6 : Int32) (a7 : Int32) (a8 : St), I a0 a1 a2 a3 a4 a5 a6 a7 a8 → (∀ (b0 : Int32) (b1 : Int32) (b2 : Int32) (b3 : Int64) (b4 : Int32) (b5 : Int32) (b6 : Int32) (b7 : Int32) (b8 : St), I b0 b1 b2 b3 b4 b5 b6 b7 b8 → m b0 b1 b2 b3 b4 b5 b6 b7 b8 < m a0 a1 a2 a3 a4 a5 a6 a7 a8 → R b0 b1 b2 b3 b4 b5 b6 b7 b8) → j_Mod_readBlock_166 post rec109 R a0 a1 a2 a3 a4 a5 a6 a7 a8) :
    ∀ (a0 : Int32) (a1 : Int32) (a2 : Int32) (a3 : Int64) (a4 : Int32) (a5 : Int32) (a6 : Int32) (a7 : Int32) (a8 : St), I a0 a1 a2 a3 a4 a5 a6 a7 a8 → ∃ n : Nat, wl_Mod_readBlock_166 post rec109 n a0 a1 a2 a3 a4 a5 a6 a7 a8 := by
  have key : ∀ (n : Nat) (a0 : Int32) (a1 : Int32) (a2 : Int32) (a3 : Int64) (a4 : Int32) (a5 : Int32) (a6 : Int32) (a7 : Int32) (a8 : St), I a0 a1 a2 a3 a4 a5 a6 a7 a8 → m a0 a1 a2 a3 a4 a5 a6 a7 a8 < n → wl_Mod_readBlock_166 post rec109 n a0 a1 a2 a3 a4 a5 a6 a7 a8 := by
    intro n
    induction n with
    | zero => intro a0 a1 a2 a3 a4 a5 a6 a7 a8 _ h; exact absurd h (Nat.not_lt_zero _)
    | succ n ih => intro a0 a1 a2 a3 a4 a5 a6 a7 a8 h hm; exact step (wl_Mod_readBlock_166 post rec109 n) a0 a1 a2 a3 a4 a5 a6 a7 a8 h (fun b0 b1 b2 b3 b4 b5 b6 b7 b8 hb hlt => ih b0 b1 b2 b3 b4 b5 b6 b7 b8 hb (Nat.lt_of_lt_of_le hlt (Nat.le_of_lt_succ hm)))
  exact fun a0 a1 a2 a3 a4 a5 a6 a7 a8 h => ⟨_, key _ a0 a1 a2 a3 a4 a5 a6 a7 a8 h (Nat.lt_succ_self _)⟩
theorem lp_Mod_readBlock_109 {post : St → Prop} (I : Int32 → Int32 → Int32 → Int64 → Int32 → Int32 → St → Prop) (m : Int32 → Int32 → Int32 → Int64 → Int32 → Int32 → St → Nat)
    (step : ∀ (R : Int32 → Int32 → Int32 → Int64 → Int32 → Int32 → St → Prop) (a0 : Int32) (a1 : Int32) (a2 : Int32) (a3 : Int64) (a4 : Int32) (a5 : Int32) (a6 : St), I a0 a1 a2 a3 a4 a5 a6 → (∀ (b0 : Int32) (b1 : Int32) (b2 : Int32) (b3 : Int64) (b4 : Int32) (b5 : Int32) (b6 : St), I b0 b1 b2 b3 b4 b5 b6 → m b0 b1 b2 b3 b4 b5 b6 < m a0 a1 a2 a3 a4 a5 a6 → R b0 b1 b2 b3 b4 b5 b6) → j_Mod_readBlock_109 post R a0 a1 a2 a3 a4 a5 a6) :
    ∀ (a0 : Int32) (a1 : Int32) (a2 : Int32) (a3 : Int64) (a4 : Int32) (a5 : Int32) (a6 : St), I a0 a1 a2 a3 a4 a5 a6 → ∃ n : Nat, wl_Mod_readBlock_109 post n a0 a1 a2 a3 a4 a5 a6 := by
  have key : ∀ (n : Nat) (a0 : Int32) (a1 : Int32) (a2 : Int32) (a3 : Int64) (a4 : Int32) (a5 : Int32) (a6 : St), I a0 a1 a2 a3 a4 a5 a6 → m a0 a1 a2 a3 a4 a5 a6 < n → wl_Mod_readBlock_109 post n a0 a1 a2 a3 a4 a5 a6 := by
    intro n
    induction n with
    | zero => intro a0 a1 a2 a3 a4 a5 a6 _ h; exact absurd h (Nat.not_lt_zero _)
    | succ n ih => intro a0 a1 a2 a3 a4 a5 a6 h hm; exact step (wl_Mod_readBlock_109 post n) a0 a1 a2 a3 a4 a5 a6 h (fun b0 b1 b2 b3 b4 b5 b6 hb hlt => ih b0 b1 b2 b3 b4 b5 b6 hb (Nat.lt_of_lt_of_le hlt (Nat.le_of_lt_succ hm)))
  exact fun a0 a1 a2 a3 a4 a5 a6 h => ⟨_, key _ a0 a1 a2 a3 a4 a5 a6 h (Nat.lt_succ_self _)⟩
theorem lp_Mod_readBlock_19 {post : St → Prop} (I : Int32 → Int32 → Int32 → Int64 → Int32 → Int32 → St → Prop) (m : Int32 → Int32 → Int32 → Int64 → Int32 → Int32 → St → Nat)
    (step : ∀ (R : Int32 → Int32 → Int32 → Int64 → Int32 → Int32 → St → Prop) (a0 : Int32) (a1 : Int32) (a2 : Int32) (a3 : Int64) (a4 : Int32) (a5 : Int32) (a6 : St), I a0 a1 a2 a3 a4 a5 a6 → (∀ (b0 : Int32) (b1 : Int32) (b2 : Int32) (b3 : Int64) (b4 : Int32) (b5 : Int32) (b6 : St), I b0 b1 b2 b3 b4 b5 b6 → m b0 b1 b2 b3 b4 b5 b6 < m a0 a1 a2 a3 a4 a5 a6 → R b0 b1 b2 b3 b4 b5 b6) → j_Mod_readBlock_19 post R a0 a1 a2 a3 a4 a5 a6) :
    ∀ (a0 : Int32) (a1 : Int32) (a2 : Int32) (a3 : Int64) (a4 : Int32) (a5 : Int32) (a6 : St), I a0 a1 a2 a3 a4 a5 a6 → ∃ n : Nat, wl_Mod_readBlock_19 post n a0 a1 a2 a3 a4 a5 a6 := by
  have key : ∀ (n : Nat) (a0 : Int32) (a1 : Int32) (a2 : Int32) (a3 : Int64) (a4 : Int32) (a5 : Int32) (a6 : St), I a0 a1 a2 a3 a4 a5 a6 → m a0 a1 a2 a3 a4 a5 a6 < n → wl_Mod_readBlock_19 post n a0 a1 a2 a3 a4 a5 a6 := by
    intro n
    induction n with
    | zero => intro a0 a1 a2 a3 a4 a5 a6 _ h; exact absurd h (Nat.not_lt_zero _)
    | succ n ih => intro a0 a1 a2 a3 a4 a5 a6 h hm; exact step (wl_Mod_readBlock_19 post n) a0 a1 a2 a3 a4 a5 a6 h (fun b0 b1 b2 b3 b4 b5 b6 hb hlt => ih b0 b1 b2 b3 b4 b5 b6 hb (Nat.lt_of_lt_of_le hlt (Nat.le_of_lt_succ hm)))
  exact fun a0 a1 a2 a3 a4 a5 a6 h => ⟨_, key _ a0 a1 a2 a3 a4 a5 a6 h (Nat.lt_succ_self _)⟩
theorem lp_Mod_readLongs_70 {post : St → Prop} (I : Int32 → Int32 → Int64 → Int32 → St → Prop) (m : Int32 → Int32 → Int64 → Int32 → St → Nat)
    (step : ∀ (R : Int32 → Int32 → Int64 → Int32 → St → Prop) (a0 : Int32) (a1 : Int32) (a2 : Int64) (a3 : Int32) (a4 : St), I a0 a1 a2 a3 a4 → (∀ (b0 : Int32) (b1 : Int32) (b2 : Int64) (b3 : Int32) (b4 : St), I b0 b1 b2 b3 b4 → m b0 b1 b2 b3 b4 < m a0 a1 a2 a3 a4 → R b0 b1 b2 b3 b4) → j_Mod_readLongs_70 post R a0 a1 a2 a3 a4) :
    ∀ (a0 : Int32) (a1 : Int32) (a2 : Int64) (a3 : Int32) (a4 : St), I a0 a1 a2 a3 a4 → ∃ n : Nat, wl_Mod_readLongs_70 post n a0 a1 a2 a3 a4 := by
  have key : ∀ (n : Nat) (a0 : Int32) (a1 : Int32) (a2 : Int64) (a3 : Int32) (a4 : St), I a0 a1 a2 a3 a4 → m a0 a1 a2 a3 a4 < n → wl_Mod_readLongs_70 post n a0 a1 a2 a3 a4 := by
    intro n
    induction n with
    | zero => intro a0 a1 a2 a3 a4 _ h; exact absurd h (Nat.not_lt_zero _)
    | succ n ih => intro a0 a1 a2 a3 a4 h hm; exact step (wl_Mod_readLongs_70 post n) a0 a1 a2 a3 a4 h (fun b0 b1 b2 b3 b4 hb hlt => ih b0 b1 b2 b3 b4 hb (Nat.lt_of_lt_of_le hlt (Nat.le_of_lt_succ hm)))
  exact fun a0 a1 a2 a3 a4 h => ⟨_, key _ a0 a1 a2 a3 a4 h (Nat.lt_succ_self _)⟩
theorem lp_Mod_readLengths_57 {post : St → Prop} (I : Int32 → Int32 → St → Prop) (m : Int32 → Int32 → St → Nat)
    (step : ∀ (R : Int32 → Int32 → St → Prop) (a0 : Int32) (a1 : Int32) (a2 : St), I a0 a1 a2 → (∀ (b0 : Int32) (b1 : Int32) (b2 : St), I b0 b1 b2 → m b0 b1 b2 < m a0 a1 a2 → R b0 b1 b2) → j_Mod_readLengths_57 post R a0 a1 a2) :
    ∀ (a0 : Int32) (a1 : Int32) (a2 : St), I a0 a1 a2 → ∃ n : Nat, wl_Mod_readLengths_57 post n a0 a1 a2 := by
  have key : ∀ (n : Nat) (a0 : Int32) (a1 : Int32) (a2 : St), I a0 a1 a2 → m a0 a1 a2 < n → wl_Mod_readLengths_57 post n a0 a1 a2 := by
    intro n
    induction n with
    | zero => intro a0 a1 a2 _ h; exact absurd h (Nat.not_lt_zero _)
    | succ n ih => intro a0 a1 a2 h hm; exact step (wl_Mod_readLengths_57 post n) a0 a1 a2 h (fun b0 b1 b2 hb hlt => ih b0 b1 b2 hb (Nat.lt_of_lt_of_le hlt (Nat.le_of_lt_succ hm)))
  exact fun a0 a1 a2 h => ⟨_, key _ a0 a1 a2 h (Nat.lt_succ_self _)⟩
theorem lp_Mod_readLengths_7 {post : St → Prop} (I : Int32 → Int32 → St → Prop) (m : Int32 → Int32 → St → Nat)
    (step : ∀ (R : Int32 → Int32 → St → Prop) (a0 : Int32) (a1 : Int32) (a2 : St), I a0 a1 a2 → (∀ (b0 : Int32) (b1 : Int32) (b2 : St), I b0 b1 b2 → m b0 b1 b2 < m a0 a1 a2 → R b0 b1 b2) → j_Mod_readLengths_7 post R a0 a1 a2) :
    ∀ (a0 : Int32) (a1 : Int32) (a2 : St), I a0 a1 a2 → ∃ n : Nat, wl_Mod_readLengths_7 post n a0 a1 a2 := by
  have key : ∀ (n : Nat) (a0 : Int32) (a1 : Int32) (a2 : St), I a0 a1 a2 → m a0 a1 a2 < n → wl_Mod_readLengths_7 post n a0 a1 a2 := by
    intro n
    induction n with
    | zero => intro a0 a1 a2 _ h; exact absurd h (Nat.not_lt_zero _)
    | succ n ih => intro a0 a1 a2 h hm; exact step (wl_Mod_readLengths_7 post n) a0 a1 a2 h (fun b0 b1 b2 hb hlt => ih b0 b1 b2 hb (Nat.lt_of_lt_of_le hlt (Nat.le_of_lt_succ hm)))
  exact fun a0 a1 a2 h => ⟨_, key _ a0 a1 a2 h (Nat.lt_succ_self _)⟩
theorem lp_Mod_readFront_89 {post : St → Prop} (I : Int32 → Int32 → St → Prop) (m : Int32 → Int32 → St → Nat)
    (step : ∀ (R : Int32 → Int32 → St → Prop) (a0 : Int32) (a1 : Int32) (a2 : St), I a0 a1 a2 → (∀ (b0 : Int32) (b1 : Int32) (b2 : St), I b0 b1 b2 → m b0 b1 b2 < m a0 a1 a2 → R b0 b1 b2) → j_Mod_readFront_89 post R a0 a1 a2) :
    ∀ (a0 : Int32) (a1 : Int32) (a2 : St), I a0 a1 a2 → ∃ n : Nat, wl_Mod_readFront_89 post n a0 a1 a2 := by
  have key : ∀ (n : Nat) (a0 : Int32) (a1 : Int32) (a2 : St), I a0 a1 a2 → m a0 a1 a2 < n → wl_Mod_readFront_89 post n a0 a1 a2 := by
    intro n
    induction n with
    | zero => intro a0 a1 a2 _ h; exact absurd h (Nat.not_lt_zero _)
    | succ n ih => intro a0 a1 a2 h hm; exact step (wl_Mod_readFront_89 post n) a0 a1 a2 h (fun b0 b1 b2 hb hlt => ih b0 b1 b2 hb (Nat.lt_of_lt_of_le hlt (Nat.le_of_lt_succ hm)))
  exact fun a0 a1 a2 h => ⟨_, key _ a0 a1 a2 h (Nat.lt_succ_self _)⟩
theorem lp_Mod_readFront_54 {post : St → Prop} (I : Int32 → Int32 → St → Prop) (m : Int32 → Int32 → St → Nat)
    (step : ∀ (R : Int32 → Int32 → St → Prop) (a0 : Int32) (a1 : Int32) (a2 : St), I a0 a1 a2 → (∀ (b0 : Int32) (b1 : Int32) (b2 : St), I b0 b1 b2 → m b0 b1 b2 < m a0 a1 a2 → R b0 b1 b2) → j_Mod_readFront_54 post R a0 a1 a2) :
    ∀ (a0 : Int32) (a1 : Int32) (a2 : St), I a0 a1 a2 → ∃ n : Nat, wl_Mod_readFront_54 post n a0 a1 a2 := by
  have key : ∀ (n : Nat) (a0 : Int32) (a1 : Int32) (a2 : St), I a0 a1 a2 → m a0 a1 a2 < n → wl_Mod_readFront_54 post n a0 a1 a2 := by
    intro n
    induction n with
    | zero => intro a0 a1 a2 _ h; exact absurd h (Nat.not_lt_zero _)
    | succ n ih => intro a0 a1 a2 h hm; exact step (wl_Mod_readFront_54 post n) a0 a1 a2 h (fun b0 b1 b2 hb hlt => ih b0 b1 b2 hb (Nat.lt_of_lt_of_le hlt (Nat.le_of_lt_succ hm)))
  exact fun a0 a1 a2 h => ⟨_, key _ a0 a1 a2 h (Nat.lt_succ_self _)⟩
theorem lp_Mod_readFront_7 {post : St → Prop} (I : Int32 → Int32 → St → Prop) (m : Int32 → Int32 → St → Nat)
    (step : ∀ (R : Int32 → Int32 → St → Prop) (a0 : Int32) (a1 : Int32) (a2 : St), I a0 a1 a2 → (∀ (b0 : Int32) (b1 : Int32) (b2 : St), I b0 b1 b2 → m b0 b1 b2 < m a0 a1 a2 → R b0 b1 b2) → j_Mod_readFront_7 post R a0 a1 a2) :
    ∀ (a0 : Int32) (a1 : Int32) (a2 : St), I a0 a1 a2 → ∃ n : Nat, wl_Mod_readFront_7 post n a0 a1 a2 := by
  have key : ∀ (n : Nat) (a0 : Int32) (a1 : Int32) (a2 : St), I a0 a1 a2 → m a0 a1 a2 < n → wl_Mod_readFront_7 post n a0 a1 a2 := by
    intro n
    induction n with
    | zero => intro a0 a1 a2 _ h; exact absurd h (Nat.not_lt_zero _)
    | succ n ih => intro a0 a1 a2 h hm; exact step (wl_Mod_readFront_7 post n) a0 a1 a2 h (fun b0 b1 b2 hb hlt => ih b0 b1 b2 hb (Nat.lt_of_lt_of_le hlt (Nat.le_of_lt_succ hm)))
  exact fun a0 a1 a2 h => ⟨_, key _ a0 a1 a2 h (Nat.lt_succ_self _)⟩
theorem lp_Mod_readDictionary_351 {post : St → Prop} {rec247 : Int32 → Int64 → Int32 → Int32 → St → Prop} (I : Int32 → Int64 → Int32 → Int32 → Int32 → Int32 → Int32 → Int32 → St → Prop) (m : Int32 → Int64 → Int32 → Int32 → Int32 → Int32 → Int32 → Int32 → St → Nat)
    (step : ∀ (R : Int32 → Int64 → Int32 → Int32 → Int32 → Int32 → Int32 → Int32 → St → Prop) (a0 : Int32) (a1 : Int64) (a2 : Int32) (a3 : Int32) (a4 : Int32) (a5 : Int32) (a6 : Int32) (a7 : Int32) (a8 : St), I a0 a1 a2 a3 a4 a5 a6 a7 a8 → (∀ (b0 : Int32) (b1 : Int64) (b2 : Int32) (b3 : Int32) (b4 : Int32) (b5 : Int32) (b6 : Int32) (b7 : Int32) (b8 : St), I b0 b1 b2 b3 b4 b5 b6 b7 b8 → m b0 b1 b2 b3 b4 b5 b6 b7 b8 < m a0 a1 a2 a3 a4 a5 a6 a7 a8 → R b0 b1 b2 b3 b4 b5 b6 b7 b8) → j_Mod_readDictionary_351 post rec247 R a0 a1 a2 a3 a4 a5 a6 a7 a8) :
    ∀ (a0 : Int32) (a1 : Int64) (a2 : Int32) (a3 : Int32) (a4 : Int32) (a5 : Int32) (a6 : Int32) (a7 : Int32) (a8 : St), I a0 a1 a2 a3 a4 a5 a6 a7 a8 → ∃ n : Nat, wl_Mod_readDictionary_351 post rec247 n a0 a1 a2 a3 a4 a5 a6 a7 a8 := by
  have key : ∀ (n : Nat) (a0 : Int32) (a1 : Int64) (a2 : Int32) (a3 : Int32) (a4 : Int32) (a5 : Int32) (a6 : Int32) (a7 : Int32) (a8 : St), I a0 a1 a2 a3 a4 a5 a6 a7 a8 → m a0 a1 a2 a3 a4 a5 a6 a7 a8 < n → wl_Mod_readDictionary_351 post rec247 n a0 a1 a2 a3 a4 a5 a6 a7 a8 := by
    intro n
    induction n with
    | zero => intro a0 a1 a2 a3 a4 a5 a6 a7 a8 _ h; exact absurd h (Nat.not_lt_zero _)
    | succ n ih => intro a0 a1 a2 a3 a4 a5 a6 a7 a8 h hm; exact step (wl_Mod_readDictionary_351 post rec247 n) a0 a1 a2 a3 a4 a5 a6 a7 a8 h (fun b0 b1 b2 b3 b4 b5 b6 b7 b8 hb hlt => ih b0 b1 b2 b3 b4 b5 b6 b7 b8 hb (Nat.lt_of_lt_of_le hlt (Nat.le_of_lt_succ hm)))
  exact fun a0 a1 a2 a3 a4 a5 a6 a7 a8 h => ⟨_, key _ a0 a1 a2 a3 a4 a5 a6 a7 a8 h (Nat.lt_succ_self _)⟩
theorem lp_Mod_readDictionary_247 {post : St → Prop} (I : Int32 → Int64 → Int32 → Int32 → St → Prop) (m : Int32 → Int64 → Int32 → Int32 → St → Nat)
    (step : ∀ (R : Int32 → Int64 → Int32 → Int32 → St → Prop) (a0 : Int32) (a1 : Int64) (a2 : Int32) (a3 : Int32) (a4 : St), I a0 a1 a2 a3 a4 → (∀ (b0 : Int32) (b1 : Int64) (b2 : Int32) (b3 : Int32) (b4 : St), I b0 b1 b2 b3 b4 → m b0 b1 b2 b3 b4 < m a0 a1 a2 a3 a4 → R b0 b1 b2 b3 b4) → j_Mod_readDictionary_247 post R a0 a1 a2 a3 a4) :
    ∀ (a0 : Int32) (a1 : Int64) (a2 : Int32) (a3 : Int32) (a4 : St), I a0 a1 a2 a3 a4 → ∃ n : Nat, wl_Mod_readDictionary_247 post n a0 a1 a2 a3 a4 := by
  have key : ∀ (n : Nat) (a0 : Int32) (a1 : Int64) (a2 : Int32) (a3 : Int32) (a4 : St), I a0 a1 a2 a3 a4 → m a0 a1 a2 a3 a4 < n → wl_Mod_readDictionary_247 post n a0 a1 a2 a3 a4 := by
    intro n
    induction n with
    | zero => intro a0 a1 a2 a3 a4 _ h; exact absurd h (Nat.not_lt_zero _)
    | succ n ih => intro a0 a1 a2 a3 a4 h hm; exact step (wl_Mod_readDictionary_247 post n) a0 a1 a2 a3 a4 h (fun b0 b1 b2 b3 b4 hb hlt => ih b0 b1 b2 b3 b4 hb (Nat.lt_of_lt_of_le hlt (Nat.le_of_lt_succ hm)))
  exact fun a0 a1 a2 a3 a4 h => ⟨_, key _ a0 a1 a2 a3 a4 h (Nat.lt_succ_self _)⟩
theorem lp_Mod_readDictionary_99 {post : St → Prop} (I : Int32 → Int64 → Int32 → St → Prop) (m : Int32 → Int64 → Int32 → St → Nat)
    (step : ∀ (R : Int32 → Int64 → Int32 → St → Prop) (a0 : Int32) (a1 : Int64) (a2 : Int32) (a3 : St), I a0 a1 a2 a3 → (∀ (b0 : Int32) (b1 : Int64) (b2 : Int32) (b3 : St), I b0 b1 b2 b3 → m b0 b1 b2 b3 < m a0 a1 a2 a3 → R b0 b1 b2 b3) → j_Mod_readDictionary_99 post R a0 a1 a2 a3) :
    ∀ (a0 : Int32) (a1 : Int64) (a2 : Int32) (a3 : St), I a0 a1 a2 a3 → ∃ n : Nat, wl_Mod_readDictionary_99 post n a0 a1 a2 a3 := by
  have key : ∀ (n : Nat) (a0 : Int32) (a1 : Int64) (a2 : Int32) (a3 : St), I a0 a1 a2 a3 → m a0 a1 a2 a3 < n → wl_Mod_readDictionary_99 post n a0 a1 a2 a3 := by
    intro n
    induction n with
    | zero => intro a0 a1 a2 a3 _ h; exact absurd h (Nat.not_lt_zero _)
    | succ n ih => intro a0 a1 a2 a3 h hm; exact step (wl_Mod_readDictionary_99 post n) a0 a1 a2 a3 h (fun b0 b1 b2 b3 hb hlt => ih b0 b1 b2 b3 hb (Nat.lt_of_lt_of_le hlt (Nat.le_of_lt_succ hm)))
  exact fun a0 a1 a2 a3 h => ⟨_, key _ a0 a1 a2 a3 h (Nat.lt_succ_self _)⟩
theorem lp_Mod_readDictionary_67 {post : St → Prop} (I : Int32 → Int64 → Int32 → St → Prop) (m : Int32 → Int64 → Int32 → St → Nat)
    (step : ∀ (R : Int32 → Int64 → Int32 → St → Prop) (a0 : Int32) (a1 : Int64) (a2 : Int32) (a3 : St), I a0 a1 a2 a3 → (∀ (b0 : Int32) (b1 : Int64) (b2 : Int32) (b3 : St), I b0 b1 b2 b3 → m b0 b1 b2 b3 < m a0 a1 a2 a3 → R b0 b1 b2 b3) → j_Mod_readDictionary_67 post R a0 a1 a2 a3) :
    ∀ (a0 : Int32) (a1 : Int64) (a2 : Int32) (a3 : St), I a0 a1 a2 a3 → ∃ n : Nat, wl_Mod_readDictionary_67 post n a0 a1 a2 a3 := by
  have key : ∀ (n : Nat) (a0 : Int32) (a1 : Int64) (a2 : Int32) (a3 : St), I a0 a1 a2 a3 → m a0 a1 a2 a3 < n → wl_Mod_readDictionary_67 post n a0 a1 a2 a3 := by
    intro n
    induction n with
    | zero => intro a0 a1 a2 a3 _ h; exact absurd h (Nat.not_lt_zero _)
    | succ n ih => intro a0 a1 a2 a3 h hm; exact step (wl_Mod_readDictionary_67 post n) a0 a1 a2 a3 h (fun b0 b1 b2 b3 hb hlt => ih b0 b1 b2 b3 hb (Nat.lt_of_lt_of_le hlt (Nat.le_of_lt_succ hm)))
  exact fun a0 a1 a2 a3 h => ⟨_, key _ a0 a1 a2 a3 h (Nat.lt_succ_self _)⟩
theorem lp_Mod_readWords_166 {post : St → Prop} (I : Int32 → Int64 → Int32 → Int32 → St → Prop) (m : Int32 → Int64 → Int32 → Int32 → St → Nat)
    (step : ∀ (R : Int32 → Int64 → Int32 → Int32 → St → Prop) (a0 : Int32) (a1 : Int64) (a2 : Int32) (a3 : Int32) (a4 : St), I a0 a1 a2 a3 a4 → (∀ (b0 : Int32) (b1 : Int64) (b2 : Int32) (b3 : Int32) (b4 : St), I b0 b1 b2 b3 b4 → m b0 b1 b2 b3 b4 < m a0 a1 a2 a3 a4 → R b0 b1 b2 b3 b4) → j_Mod_readWords_166 post R a0 a1 a2 a3 a4) :
    ∀ (a0 : Int32) (a1 : Int64) (a2 : Int32) (a3 : Int32) (a4 : St), I a0 a1 a2 a3 a4 → ∃ n : Nat, wl_Mod_readWords_166 post n a0 a1 a2 a3 a4 := by
  have key : ∀ (n : Nat) (a0 : Int32) (a1 : Int64) (a2 : Int32) (a3 : Int32) (a4 : St), I a0 a1 a2 a3 a4 → m a0 a1 a2 a3 a4 < n → wl_Mod_readWords_166 post n a0 a1 a2 a3 a4 := by
    intro n
    induction n with
    | zero => intro a0 a1 a2 a3 a4 _ h; exact absurd h (Nat.not_lt_zero _)
    | succ n ih => intro a0 a1 a2 a3 a4 h hm; exact step (wl_Mod_readWords_166 post n) a0 a1 a2 a3 a4 h (fun b0 b1 b2 b3 b4 hb hlt => ih b0 b1 b2 b3 b4 hb (Nat.lt_of_lt_of_le hlt (Nat.le_of_lt_succ hm)))
  exact fun a0 a1 a2 a3 a4 h => ⟨_, key _ a0 a1 a2 a3 a4 h (Nat.lt_succ_self _)⟩
theorem lp_Mod_readWords_54 {post : St → Prop} (I : Int32 → Int64 → Int32 → St → Prop) (m : Int32 → Int64 → Int32 → St → Nat)
    (step : ∀ (R : Int32 → Int64 → Int32 → St → Prop) (a0 : Int32) (a1 : Int64) (a2 : Int32) (a3 : St), I a0 a1 a2 a3 → (∀ (b0 : Int32) (b1 : Int64) (b2 : Int32) (b3 : St), I b0 b1 b2 b3 → m b0 b1 b2 b3 < m a0 a1 a2 a3 → R b0 b1 b2 b3) → j_Mod_readWords_54 post R a0 a1 a2 a3) :
    ∀ (a0 : Int32) (a1 : Int64) (a2 : Int32) (a3 : St), I a0 a1 a2 a3 → ∃ n : Nat, wl_Mod_readWords_54 post n a0 a1 a2 a3 := by
  have key : ∀ (n : Nat) (a0 : Int32) (a1 : Int64) (a2 : Int32) (a3 : St), I a0 a1 a2 a3 → m a0 a1 a2 a3 < n → wl_Mod_readWords_54 post n a0 a1 a2 a3 := by
    intro n
    induction n with
    | zero => intro a0 a1 a2 a3 _ h; exact absurd h (Nat.not_lt_zero _)
    | succ n ih => intro a0 a1 a2 a3 h hm; exact step (wl_Mod_readWords_54 post n) a0 a1 a2 a3 h (fun b0 b1 b2 b3 hb hlt => ih b0 b1 b2 b3 hb (Nat.lt_of_lt_of_le hlt (Nat.le_of_lt_succ hm)))
  exact fun a0 a1 a2 a3 h => ⟨_, key _ a0 a1 a2 a3 h (Nat.lt_succ_self _)⟩
theorem lp_Mod_readWholes_53 {post : St → Prop} (I : Int32 → Int32 → Int32 → St → Prop) (m : Int32 → Int32 → Int32 → St → Nat)
    (step : ∀ (R : Int32 → Int32 → Int32 → St → Prop) (a0 : Int32) (a1 : Int32) (a2 : Int32) (a3 : St), I a0 a1 a2 a3 → (∀ (b0 : Int32) (b1 : Int32) (b2 : Int32) (b3 : St), I b0 b1 b2 b3 → m b0 b1 b2 b3 < m a0 a1 a2 a3 → R b0 b1 b2 b3) → j_Mod_readWholes_53 post R a0 a1 a2 a3) :
    ∀ (a0 : Int32) (a1 : Int32) (a2 : Int32) (a3 : St), I a0 a1 a2 a3 → ∃ n : Nat, wl_Mod_readWholes_53 post n a0 a1 a2 a3 := by
  have key : ∀ (n : Nat) (a0 : Int32) (a1 : Int32) (a2 : Int32) (a3 : St), I a0 a1 a2 a3 → m a0 a1 a2 a3 < n → wl_Mod_readWholes_53 post n a0 a1 a2 a3 := by
    intro n
    induction n with
    | zero => intro a0 a1 a2 a3 _ h; exact absurd h (Nat.not_lt_zero _)
    | succ n ih => intro a0 a1 a2 a3 h hm; exact step (wl_Mod_readWholes_53 post n) a0 a1 a2 a3 h (fun b0 b1 b2 b3 hb hlt => ih b0 b1 b2 b3 hb (Nat.lt_of_lt_of_le hlt (Nat.le_of_lt_succ hm)))
  exact fun a0 a1 a2 a3 h => ⟨_, key _ a0 a1 a2 a3 h (Nat.lt_succ_self _)⟩
theorem lp_Mod_readWholes_6 {post : St → Prop} (I : Int32 → Int32 → Int32 → St → Prop) (m : Int32 → Int32 → Int32 → St → Nat)
    (step : ∀ (R : Int32 → Int32 → Int32 → St → Prop) (a0 : Int32) (a1 : Int32) (a2 : Int32) (a3 : St), I a0 a1 a2 a3 → (∀ (b0 : Int32) (b1 : Int32) (b2 : Int32) (b3 : St), I b0 b1 b2 b3 → m b0 b1 b2 b3 < m a0 a1 a2 a3 → R b0 b1 b2 b3) → j_Mod_readWholes_6 post R a0 a1 a2 a3) :
    ∀ (a0 : Int32) (a1 : Int32) (a2 : Int32) (a3 : St), I a0 a1 a2 a3 → ∃ n : Nat, wl_Mod_readWholes_6 post n a0 a1 a2 a3 := by
  have key : ∀ (n : Nat) (a0 : Int32) (a1 : Int32) (a2 : Int32) (a3 : St), I a0 a1 a2 a3 → m a0 a1 a2 a3 < n → wl_Mod_readWholes_6 post n a0 a1 a2 a3 := by
    intro n
    induction n with
    | zero => intro a0 a1 a2 a3 _ h; exact absurd h (Nat.not_lt_zero _)
    | succ n ih => intro a0 a1 a2 a3 h hm; exact step (wl_Mod_readWholes_6 post n) a0 a1 a2 a3 h (fun b0 b1 b2 b3 hb hlt => ih b0 b1 b2 b3 hb (Nat.lt_of_lt_of_le hlt (Nat.le_of_lt_succ hm)))
  exact fun a0 a1 a2 a3 h => ⟨_, key _ a0 a1 a2 a3 h (Nat.lt_succ_self _)⟩
theorem lp_Mod_against_69 {post : Int32 → St → Prop} (I : Int32 → Int32 → Int32 → Int32 → St → Prop) (m : Int32 → Int32 → Int32 → Int32 → St → Nat)
    (step : ∀ (R : Int32 → Int32 → Int32 → Int32 → St → Prop) (a0 : Int32) (a1 : Int32) (a2 : Int32) (a3 : Int32) (a4 : St), I a0 a1 a2 a3 a4 → (∀ (b0 : Int32) (b1 : Int32) (b2 : Int32) (b3 : Int32) (b4 : St), I b0 b1 b2 b3 b4 → m b0 b1 b2 b3 b4 < m a0 a1 a2 a3 a4 → R b0 b1 b2 b3 b4) → j_Mod_against_69 post R a0 a1 a2 a3 a4) :
    ∀ (a0 : Int32) (a1 : Int32) (a2 : Int32) (a3 : Int32) (a4 : St), I a0 a1 a2 a3 a4 → ∃ n : Nat, wl_Mod_against_69 post n a0 a1 a2 a3 a4 := by
  have key : ∀ (n : Nat) (a0 : Int32) (a1 : Int32) (a2 : Int32) (a3 : Int32) (a4 : St), I a0 a1 a2 a3 a4 → m a0 a1 a2 a3 a4 < n → wl_Mod_against_69 post n a0 a1 a2 a3 a4 := by
    intro n
    induction n with
    | zero => intro a0 a1 a2 a3 a4 _ h; exact absurd h (Nat.not_lt_zero _)
    | succ n ih => intro a0 a1 a2 a3 a4 h hm; exact step (wl_Mod_against_69 post n) a0 a1 a2 a3 a4 h (fun b0 b1 b2 b3 b4 hb hlt => ih b0 b1 b2 b3 b4 hb (Nat.lt_of_lt_of_le hlt (Nat.le_of_lt_succ hm)))
  exact fun a0 a1 a2 a3 a4 h => ⟨_, key _ a0 a1 a2 a3 a4 h (Nat.lt_succ_self _)⟩
theorem lp_Mod_isMost_8 {post : Int32 → St → Prop} (I : Int32 → Int32 → Int32 → Int32 → Int32 → St → Prop) (m : Int32 → Int32 → Int32 → Int32 → Int32 → St → Nat)
    (step : ∀ (R : Int32 → Int32 → Int32 → Int32 → Int32 → St → Prop) (a0 : Int32) (a1 : Int32) (a2 : Int32) (a3 : Int32) (a4 : Int32) (a5 : St), I a0 a1 a2 a3 a4 a5 → (∀ (b0 : Int32) (b1 : Int32) (b2 : Int32) (b3 : Int32) (b4 : Int32) (b5 : St), I b0 b1 b2 b3 b4 b5 → m b0 b1 b2 b3 b4 b5 < m a0 a1 a2 a3 a4 a5 → R b0 b1 b2 b3 b4 b5) → j_Mod_isMost_8 post R a0 a1 a2 a3 a4 a5) :
    ∀ (a0 : Int32) (a1 : Int32) (a2 : Int32) (a3 : Int32) (a4 : Int32) (a5 : St), I a0 a1 a2 a3 a4 a5 → ∃ n : Nat, wl_Mod_isMost_8 post n a0 a1 a2 a3 a4 a5 := by
  have key : ∀ (n : Nat) (a0 : Int32) (a1 : Int32) (a2 : Int32) (a3 : Int32) (a4 : Int32) (a5 : St), I a0 a1 a2 a3 a4 a5 → m a0 a1 a2 a3 a4 a5 < n → wl_Mod_isMost_8 post n a0 a1 a2 a3 a4 a5 := by
    intro n
    induction n with
    | zero => intro a0 a1 a2 a3 a4 a5 _ h; exact absurd h (Nat.not_lt_zero _)
    | succ n ih => intro a0 a1 a2 a3 a4 a5 h hm; exact step (wl_Mod_isMost_8 post n) a0 a1 a2 a3 a4 a5 h (fun b0 b1 b2 b3 b4 b5 hb hlt => ih b0 b1 b2 b3 b4 b5 hb (Nat.lt_of_lt_of_le hlt (Nat.le_of_lt_succ hm)))
  exact fun a0 a1 a2 a3 a4 a5 h => ⟨_, key _ a0 a1 a2 a3 a4 a5 h (Nat.lt_succ_self _)⟩
theorem lp_Mod_readBody_32 {post : St → Prop} (I : Int32 → Int32 → Int32 → Int32 → Int32 → St → Prop) (m : Int32 → Int32 → Int32 → Int32 → Int32 → St → Nat)
    (step : ∀ (R : Int32 → Int32 → Int32 → Int32 → Int32 → St → Prop) (a0 : Int32) (a1 : Int32) (a2 : Int32) (a3 : Int32) (a4 : Int32) (a5 : St), I a0 a1 a2 a3 a4 a5 → (∀ (b0 : Int32) (b1 : Int32) (b2 : Int32) (b3 : Int32) (b4 : Int32) (b5 : St), I b0 b1 b2 b3 b4 b5 → m b0 b1 b2 b3 b4 b5 < m a0 a1 a2 a3 a4 a5 → R b0 b1 b2 b3 b4 b5) → j_Mod_readBody_32 post R a0 a1 a2 a3 a4 a5) :
    ∀ (a0 : Int32) (a1 : Int32) (a2 : Int32) (a3 : Int32) (a4 : Int32) (a5 : St), I a0 a1 a2 a3 a4 a5 → ∃ n : Nat, wl_Mod_readBody_32 post n a0 a1 a2 a3 a4 a5 := by
  have key : ∀ (n : Nat) (a0 : Int32) (a1 : Int32) (a2 : Int32) (a3 : Int32) (a4 : Int32) (a5 : St), I a0 a1 a2 a3 a4 a5 → m a0 a1 a2 a3 a4 a5 < n → wl_Mod_readBody_32 post n a0 a1 a2 a3 a4 a5 := by
    intro n
    induction n with
    | zero => intro a0 a1 a2 a3 a4 a5 _ h; exact absurd h (Nat.not_lt_zero _)
    | succ n ih => intro a0 a1 a2 a3 a4 a5 h hm; exact step (wl_Mod_readBody_32 post n) a0 a1 a2 a3 a4 a5 h (fun b0 b1 b2 b3 b4 b5 hb hlt => ih b0 b1 b2 b3 b4 b5 hb (Nat.lt_of_lt_of_le hlt (Nat.le_of_lt_succ hm)))
  exact fun a0 a1 a2 a3 a4 a5 h => ⟨_, key _ a0 a1 a2 a3 a4 a5 h (Nat.lt_succ_self _)⟩
theorem lp_Mod_readPage_124 {post : St → Prop} (I : Int32 → Int64 → Int64 → Int32 → Int32 → St → Prop) (m : Int32 → Int64 → Int64 → Int32 → Int32 → St → Nat)
    (step : ∀ (R : Int32 → Int64 → Int64 → Int32 → Int32 → St → Prop) (a0 : Int32) (a1 : Int64) (a2 : Int64) (a3 : Int32) (a4 : Int32) (a5 : St), I a0 a1 a2 a3 a4 a5 → (∀ (b0 : Int32) (b1 : Int64) (b2 : Int64) (b3 : Int32) (b4 : Int32) (b5 : St), I b0 b1 b2 b3 b4 b5 → m b0 b1 b2 b3 b4 b5 < m a0 a1 a2 a3 a4 a5 → R b0 b1 b2 b3 b4 b5) → j_Mod_readPage_124 post R a0 a1 a2 a3 a4 a5) :
    ∀ (a0 : Int32) (a1 : Int64) (a2 : Int64) (a3 : Int32) (a4 : Int32) (a5 : St), I a0 a1 a2 a3 a4 a5 → ∃ n : Nat, wl_Mod_readPage_124 post n a0 a1 a2 a3 a4 a5 := by
  have key : ∀ (n : Nat) (a0 : Int32) (a1 : Int64) (a2 : Int64) (a3 : Int32) (a4 : Int32) (a5 : St), I a0 a1 a2 a3 a4 a5 → m a0 a1 a2 a3 a4 a5 < n → wl_Mod_readPage_124 post n a0 a1 a2 a3 a4 a5 := by
    intro n
    induction n with
    | zero => intro a0 a1 a2 a3 a4 a5 _ h; exact absurd h (Nat.not_lt_zero _)
    | succ n ih => intro a0 a1 a2 a3 a4 a5 h hm; exact step (wl_Mod_readPage_124 post n) a0 a1 a2 a3 a4 a5 h (fun b0 b1 b2 b3 b4 b5 hb hlt => ih b0 b1 b2 b3 b4 b5 hb (Nat.lt_of_lt_of_le hlt (Nat.le_of_lt_succ hm)))
  exact fun a0 a1 a2 a3 a4 a5 h => ⟨_, key _ a0 a1 a2 a3 a4 a5 h (Nat.lt_succ_self _)⟩
theorem lp_Mod_order_42 {post : St → Prop} {rec12 : Int32 → Int32 → Int32 → St → Prop} (I : Int32 → Int32 → Int32 → Int32 → Int32 → Int32 → St → Prop) (m : Int32 → Int32 → Int32 → Int32 → Int32 → Int32 → St → Nat)
    (step : ∀ (R : Int32 → Int32 → Int32 → Int32 → Int32 → Int32 → St → Prop) (a0 : Int32) (a1 : Int32) (a2 : Int32) (a3 : Int32) (a4 : Int32) (a5 : Int32) (a6 : St), I a0 a1 a2 a3 a4 a5 a6 → (∀ (b0 : Int32) (b1 : Int32) (b2 : Int32) (b3 : Int32) (b4 : Int32) (b5 : Int32) (b6 : St), I b0 b1 b2 b3 b4 b5 b6 → m b0 b1 b2 b3 b4 b5 b6 < m a0 a1 a2 a3 a4 a5 a6 → R b0 b1 b2 b3 b4 b5 b6) → j_Mod_order_42 post rec12 R a0 a1 a2 a3 a4 a5 a6) :
    ∀ (a0 : Int32) (a1 : Int32) (a2 : Int32) (a3 : Int32) (a4 : Int32) (a5 : Int32) (a6 : St), I a0 a1 a2 a3 a4 a5 a6 → ∃ n : Nat, wl_Mod_order_42 post rec12 n a0 a1 a2 a3 a4 a5 a6 := by
  have key : ∀ (n : Nat) (a0 : Int32) (a1 : Int32) (a2 : Int32) (a3 : Int32) (a4 : Int32) (a5 : Int32) (a6 : St), I a0 a1 a2 a3 a4 a5 a6 → m a0 a1 a2 a3 a4 a5 a6 < n → wl_Mod_order_42 post rec12 n a0 a1 a2 a3 a4 a5 a6 := by
    intro n
    induction n with
    | zero => intro a0 a1 a2 a3 a4 a5 a6 _ h; exact absurd h (Nat.not_lt_zero _)
    | succ n ih => intro a0 a1 a2 a3 a4 a5 a6 h hm; exact step (wl_Mod_order_42 post rec12 n) a0 a1 a2 a3 a4 a5 a6 h (fun b0 b1 b2 b3 b4 b5 b6 hb hlt => ih b0 b1 b2 b3 b4 b5 b6 hb (Nat.lt_of_lt_of_le hlt (Nat.le_of_lt_succ hm)))
  exact fun a0 a1 a2 a3 a4 a5 a6 h => ⟨_, key _ a0 a1 a2 a3 a4 a5 a6 h (Nat.lt_succ_self _)⟩
theorem lp_Mod_order_12 {post : St → Prop} (I : Int32 → Int32 → Int32 → St → Prop) (m : Int32 → Int32 → Int32 → St → Nat)
    (step : ∀ (R : Int32 → Int32 → Int32 → St → Prop) (a0 : Int32) (a1 : Int32) (a2 : Int32) (a3 : St), I a0 a1 a2 a3 → (∀ (b0 : Int32) (b1 : Int32) (b2 : Int32) (b3 : St), I b0 b1 b2 b3 → m b0 b1 b2 b3 < m a0 a1 a2 a3 → R b0 b1 b2 b3) → j_Mod_order_12 post R a0 a1 a2 a3) :
    ∀ (a0 : Int32) (a1 : Int32) (a2 : Int32) (a3 : St), I a0 a1 a2 a3 → ∃ n : Nat, wl_Mod_order_12 post n a0 a1 a2 a3 := by
  have key : ∀ (n : Nat) (a0 : Int32) (a1 : Int32) (a2 : Int32) (a3 : St), I a0 a1 a2 a3 → m a0 a1 a2 a3 < n → wl_Mod_order_12 post n a0 a1 a2 a3 := by
    intro n
    induction n with
    | zero => intro a0 a1 a2 a3 _ h; exact absurd h (Nat.not_lt_zero _)
    | succ n ih => intro a0 a1 a2 a3 h hm; exact step (wl_Mod_order_12 post n) a0 a1 a2 a3 h (fun b0 b1 b2 b3 hb hlt => ih b0 b1 b2 b3 hb (Nat.lt_of_lt_of_le hlt (Nat.le_of_lt_succ hm)))
  exact fun a0 a1 a2 a3 h => ⟨_, key _ a0 a1 a2 a3 h (Nat.lt_succ_self _)⟩
theorem lp_Mod_compare_50 {post : Int32 → St → Prop} (I : Int32 → Int32 → Int32 → Int32 → St → Prop) (m : Int32 → Int32 → Int32 → Int32 → St → Nat)
    (step : ∀ (R : Int32 → Int32 → Int32 → Int32 → St → Prop) (a0 : Int32) (a1 : Int32) (a2 : Int32) (a3 : Int32) (a4 : St), I a0 a1 a2 a3 a4 → (∀ (b0 : Int32) (b1 : Int32) (b2 : Int32) (b3 : Int32) (b4 : St), I b0 b1 b2 b3 b4 → m b0 b1 b2 b3 b4 < m a0 a1 a2 a3 a4 → R b0 b1 b2 b3 b4) → j_Mod_compare_50 post R a0 a1 a2 a3 a4) :
    ∀ (a0 : Int32) (a1 : Int32) (a2 : Int32) (a3 : Int32) (a4 : St), I a0 a1 a2 a3 a4 → ∃ n : Nat, wl_Mod_compare_50 post n a0 a1 a2 a3 a4 := by
  have key : ∀ (n : Nat) (a0 : Int32) (a1 : Int32) (a2 : Int32) (a3 : Int32) (a4 : St), I a0 a1 a2 a3 a4 → m a0 a1 a2 a3 a4 < n → wl_Mod_compare_50 post n a0 a1 a2 a3 a4 := by
    intro n
    induction n with
    | zero => intro a0 a1 a2 a3 a4 _ h; exact absurd h (Nat.not_lt_zero _)
    | succ n ih => intro a0 a1 a2 a3 a4 h hm; exact step (wl_Mod_compare_50 post n) a0 a1 a2 a3 a4 h (fun b0 b1 b2 b3 b4 hb hlt => ih b0 b1 b2 b3 b4 hb (Nat.lt_of_lt_of_le hlt (Nat.le_of_lt_succ hm)))
  exact fun a0 a1 a2 a3 a4 h => ⟨_, key _ a0 a1 a2 a3 a4 h (Nat.lt_succ_self _)⟩
theorem lp_Mod_openPage_579 {post : St → Prop} (I : Int32 → Int32 → Int32 → Int32 → Int32 → Int32 → St → Prop) (m : Int32 → Int32 → Int32 → Int32 → Int32 → Int32 → St → Nat)
    (step : ∀ (R : Int32 → Int32 → Int32 → Int32 → Int32 → Int32 → St → Prop) (a0 : Int32) (a1 : Int32) (a2 : Int32) (a3 : Int32) (a4 : Int32) (a5 : Int32) (a6 : St), I a0 a1 a2 a3 a4 a5 a6 → (∀ (b0 : Int32) (b1 : Int32) (b2 : Int32) (b3 : Int32) (b4 : Int32) (b5 : Int32) (b6 : St), I b0 b1 b2 b3 b4 b5 b6 → m b0 b1 b2 b3 b4 b5 b6 < m a0 a1 a2 a3 a4 a5 a6 → R b0 b1 b2 b3 b4 b5 b6) → j_Mod_openPage_579 post R a0 a1 a2 a3 a4 a5 a6) :
    ∀ (a0 : Int32) (a1 : Int32) (a2 : Int32) (a3 : Int32) (a4 : Int32) (a5 : Int32) (a6 : St), I a0 a1 a2 a3 a4 a5 a6 → ∃ n : Nat, wl_Mod_openPage_579 post n a0 a1 a2 a3 a4 a5 a6 := by
  have key : ∀ (n : Nat) (a0 : Int32) (a1 : Int32) (a2 : Int32) (a3 : Int32) (a4 : Int32) (a5 : Int32) (a6 : St), I a0 a1 a2 a3 a4 a5 a6 → m a0 a1 a2 a3 a4 a5 a6 < n → wl_Mod_openPage_579 post n a0 a1 a2 a3 a4 a5 a6 := by
    intro n
    induction n with
    | zero => intro a0 a1 a2 a3 a4 a5 a6 _ h; exact absurd h (Nat.not_lt_zero _)
    | succ n ih => intro a0 a1 a2 a3 a4 a5 a6 h hm; exact step (wl_Mod_openPage_579 post n) a0 a1 a2 a3 a4 a5 a6 h (fun b0 b1 b2 b3 b4 b5 b6 hb hlt => ih b0 b1 b2 b3 b4 b5 b6 hb (Nat.lt_of_lt_of_le hlt (Nat.le_of_lt_succ hm)))
  exact fun a0 a1 a2 a3 a4 a5 a6 h => ⟨_, key _ a0 a1 a2 a3 a4 a5 a6 h (Nat.lt_succ_self _)⟩
theorem lp_Mod_openPage_232 {post : St → Prop} (I : Int32 → Int32 → Int32 → Int32 → Int32 → Int32 → St → Prop) (m : Int32 → Int32 → Int32 → Int32 → Int32 → Int32 → St → Nat)
    (step : ∀ (R : Int32 → Int32 → Int32 → Int32 → Int32 → Int32 → St → Prop) (a0 : Int32) (a1 : Int32) (a2 : Int32) (a3 : Int32) (a4 : Int32) (a5 : Int32) (a6 : St), I a0 a1 a2 a3 a4 a5 a6 → (∀ (b0 : Int32) (b1 : Int32) (b2 : Int32) (b3 : Int32) (b4 : Int32) (b5 : Int32) (b6 : St), I b0 b1 b2 b3 b4 b5 b6 → m b0 b1 b2 b3 b4 b5 b6 < m a0 a1 a2 a3 a4 a5 a6 → R b0 b1 b2 b3 b4 b5 b6) → j_Mod_openPage_232 post R a0 a1 a2 a3 a4 a5 a6) :
    ∀ (a0 : Int32) (a1 : Int32) (a2 : Int32) (a3 : Int32) (a4 : Int32) (a5 : Int32) (a6 : St), I a0 a1 a2 a3 a4 a5 a6 → ∃ n : Nat, wl_Mod_openPage_232 post n a0 a1 a2 a3 a4 a5 a6 := by
  have key : ∀ (n : Nat) (a0 : Int32) (a1 : Int32) (a2 : Int32) (a3 : Int32) (a4 : Int32) (a5 : Int32) (a6 : St), I a0 a1 a2 a3 a4 a5 a6 → m a0 a1 a2 a3 a4 a5 a6 < n → wl_Mod_openPage_232 post n a0 a1 a2 a3 a4 a5 a6 := by
    intro n
    induction n with
    | zero => intro a0 a1 a2 a3 a4 a5 a6 _ h; exact absurd h (Nat.not_lt_zero _)
    | succ n ih => intro a0 a1 a2 a3 a4 a5 a6 h hm; exact step (wl_Mod_openPage_232 post n) a0 a1 a2 a3 a4 a5 a6 h (fun b0 b1 b2 b3 b4 b5 b6 hb hlt => ih b0 b1 b2 b3 b4 b5 b6 hb (Nat.lt_of_lt_of_le hlt (Nat.le_of_lt_succ hm)))
  exact fun a0 a1 a2 a3 a4 a5 a6 h => ⟨_, key _ a0 a1 a2 a3 a4 a5 a6 h (Nat.lt_succ_self _)⟩
theorem lp_Mod_around_40 {post : Int32 → St → Prop} {rec14 : Int32 → Int32 → Int32 → Int32 → St → Prop} (I : Int32 → Int32 → Int32 → Int32 → Int32 → Int32 → St → Prop) (m : Int32 → Int32 → Int32 → Int32 → Int32 → Int32 → St → Nat)
    (step : ∀ (R : Int32 → Int32 → Int32 → Int32 → Int32 → Int32 → St → Prop) (a0 : Int32) (a1 : Int32) (a2 : Int32) (a3 : Int32) (a4 : Int32) (a5 : Int32) (a6 : St), I a0 a1 a2 a3 a4 a5 a6 → (∀ (b0 : Int32) (b1 : Int32) (b2 : Int32) (b3 : Int32) (b4 : Int32) (b5 : Int32) (b6 : St), I b0 b1 b2 b3 b4 b5 b6 → m b0 b1 b2 b3 b4 b5 b6 < m a0 a1 a2 a3 a4 a5 a6 → R b0 b1 b2 b3 b4 b5 b6) → j_Mod_around_40 post rec14 R a0 a1 a2 a3 a4 a5 a6) :
    ∀ (a0 : Int32) (a1 : Int32) (a2 : Int32) (a3 : Int32) (a4 : Int32) (a5 : Int32) (a6 : St), I a0 a1 a2 a3 a4 a5 a6 → ∃ n : Nat, wl_Mod_around_40 post rec14 n a0 a1 a2 a3 a4 a5 a6 := by
  have key : ∀ (n : Nat) (a0 : Int32) (a1 : Int32) (a2 : Int32) (a3 : Int32) (a4 : Int32) (a5 : Int32) (a6 : St), I a0 a1 a2 a3 a4 a5 a6 → m a0 a1 a2 a3 a4 a5 a6 < n → wl_Mod_around_40 post rec14 n a0 a1 a2 a3 a4 a5 a6 := by
    intro n
    induction n with
    | zero => intro a0 a1 a2 a3 a4 a5 a6 _ h; exact absurd h (Nat.not_lt_zero _)
    | succ n ih => intro a0 a1 a2 a3 a4 a5 a6 h hm; exact step (wl_Mod_around_40 post rec14 n) a0 a1 a2 a3 a4 a5 a6 h (fun b0 b1 b2 b3 b4 b5 b6 hb hlt => ih b0 b1 b2 b3 b4 b5 b6 hb (Nat.lt_of_lt_of_le hlt (Nat.le_of_lt_succ hm)))
  exact fun a0 a1 a2 a3 a4 a5 a6 h => ⟨_, key _ a0 a1 a2 a3 a4 a5 a6 h (Nat.lt_succ_self _)⟩
theorem lp_Mod_around_14 {post : Int32 → St → Prop} (I : Int32 → Int32 → Int32 → Int32 → St → Prop) (m : Int32 → Int32 → Int32 → Int32 → St → Nat)
    (step : ∀ (R : Int32 → Int32 → Int32 → Int32 → St → Prop) (a0 : Int32) (a1 : Int32) (a2 : Int32) (a3 : Int32) (a4 : St), I a0 a1 a2 a3 a4 → (∀ (b0 : Int32) (b1 : Int32) (b2 : Int32) (b3 : Int32) (b4 : St), I b0 b1 b2 b3 b4 → m b0 b1 b2 b3 b4 < m a0 a1 a2 a3 a4 → R b0 b1 b2 b3 b4) → j_Mod_around_14 post R a0 a1 a2 a3 a4) :
    ∀ (a0 : Int32) (a1 : Int32) (a2 : Int32) (a3 : Int32) (a4 : St), I a0 a1 a2 a3 a4 → ∃ n : Nat, wl_Mod_around_14 post n a0 a1 a2 a3 a4 := by
  have key : ∀ (n : Nat) (a0 : Int32) (a1 : Int32) (a2 : Int32) (a3 : Int32) (a4 : St), I a0 a1 a2 a3 a4 → m a0 a1 a2 a3 a4 < n → wl_Mod_around_14 post n a0 a1 a2 a3 a4 := by
    intro n
    induction n with
    | zero => intro a0 a1 a2 a3 a4 _ h; exact absurd h (Nat.not_lt_zero _)
    | succ n ih => intro a0 a1 a2 a3 a4 h hm; exact step (wl_Mod_around_14 post n) a0 a1 a2 a3 a4 h (fun b0 b1 b2 b3 b4 hb hlt => ih b0 b1 b2 b3 b4 hb (Nat.lt_of_lt_of_le hlt (Nat.le_of_lt_succ hm)))
  exact fun a0 a1 a2 a3 a4 h => ⟨_, key _ a0 a1 a2 a3 a4 h (Nat.lt_succ_self _)⟩
theorem lp_Mod_apart_229 {post : St → Prop} (I : Int32 → Int32 → Int32 → Int32 → Int32 → Int32 → Int32 → St → Prop) (m : Int32 → Int32 → Int32 → Int32 → Int32 → Int32 → Int32 → St → Nat)
    (step : ∀ (R : Int32 → Int32 → Int32 → Int32 → Int32 → Int32 → Int32 → St → Prop) (a0 : Int32) (a1 : Int32) (a2 : Int32) (a3 : Int32) (a4 : Int32) (a5 : Int32) (a6 : Int32) (a7 : St), I a0 a1 a2 a3 a4 a5 a6 a7 → (∀ (b0 : Int32) (b1 : Int32) (b2 : Int32) (b3 : Int32) (b4 : Int32) (b5 : Int32) (b6 : Int32) (b7 : St), I b0 b1 b2 b3 b4 b5 b6 b7 → m b0 b1 b2 b3 b4 b5 b6 b7 < m a0 a1 a2 a3 a4 a5 a6 a7 → R b0 b1 b2 b3 b4 b5 b6 b7) → j_Mod_apart_229 post R a0 a1 a2 a3 a4 a5 a6 a7) :
    ∀ (a0 : Int32) (a1 : Int32) (a2 : Int32) (a3 : Int32) (a4 : Int32) (a5 : Int32) (a6 : Int32) (a7 : St), I a0 a1 a2 a3 a4 a5 a6 a7 → ∃ n : Nat, wl_Mod_apart_229 post n a0 a1 a2 a3 a4 a5 a6 a7 := by
  have key : ∀ (n : Nat) (a0 : Int32) (a1 : Int32) (a2 : Int32) (a3 : Int32) (a4 : Int32) (a5 : Int32) (a6 : Int32) (a7 : St), I a0 a1 a2 a3 a4 a5 a6 a7 → m a0 a1 a2 a3 a4 a5 a6 a7 < n → wl_Mod_apart_229 post n a0 a1 a2 a3 a4 a5 a6 a7 := by
    intro n
    induction n with
    | zero => intro a0 a1 a2 a3 a4 a5 a6 a7 _ h; exact absurd h (Nat.not_lt_zero _)
    | succ n ih => intro a0 a1 a2 a3 a4 a5 a6 a7 h hm; exact step (wl_Mod_apart_229 post n) a0 a1 a2 a3 a4 a5 a6 a7 h (fun b0 b1 b2 b3 b4 b5 b6 b7 hb hlt => ih b0 b1 b2 b3 b4 b5 b6 b7 hb (Nat.lt_of_lt_of_le hlt (Nat.le_of_lt_succ hm)))
  exact fun a0 a1 a2 a3 a4 a5 a6 a7 h => ⟨_, key _ a0 a1 a2 a3 a4 a5 a6 a7 h (Nat.lt_succ_self _)⟩
theorem lp_Mod_apart_93 {post : St → Prop} {rec67 : Int32 → Int32 → Int32 → Int32 → Int32 → Int32 → Int32 → St → Prop} (I : Int32 → Int32 → Int32 → Int32 → Int32 → Int32 → Int32 → St → Prop) (m : Int32 → Int32 → Int32 → Int32 → Int32 → Int32 → Int32 → St → Nat)
    (step : ∀ (R : Int32 → Int32 → Int32 → Int32 → Int32 → Int32 → Int32 → St → Prop) (a0 : Int32) (a1 : Int32) (a2 : Int32) (a3 : Int32) (a4 : Int32) (a5 : Int32) (a6 : Int32) (a7 : St), I a0 a1 a2 a3 a4 a5 a6 a7 → (∀ (b0 : Int32) (b1 : Int32) (b2 : Int32) (b3 : Int32) (b4 : Int32) (b5 : Int32) (b6 : Int32) (b7 : St), I b0 b1 b2 b3 b4 b5 b6 b7 → m b0 b1 b2 b3 b4 b5 b6 b7 < m a0 a1 a2 a3 a4 a5 a6 a7 → R b0 b1 b2 b3 b4 b5 b6 b7) → j_Mod_apart_93 post rec67 R a0 a1 a2 a3 a4 a5 a6 a7) :
    ∀ (a0 : Int32) (a1 : Int32) (a2 : Int32) (a3 : Int32) (a4 : Int32) (a5 : Int32) (a6 : Int32) (a7 : St), I a0 a1 a2 a3 a4 a5 a6 a7 → ∃ n : Nat, wl_Mod_apart_93 post rec67 n a0 a1 a2 a3 a4 a5 a6 a7 := by
  have key : ∀ (n : Nat) (a0 : Int32) (a1 : Int32) (a2 : Int32) (a3 : Int32) (a4 : Int32) (a5 : Int32) (a6 : Int32) (a7 : St), I a0 a1 a2 a3 a4 a5 a6 a7 → m a0 a1 a2 a3 a4 a5 a6 a7 < n → wl_Mod_apart_93 post rec67 n a0 a1 a2 a3 a4 a5 a6 a7 := by
    intro n
    induction n with
    | zero => intro a0 a1 a2 a3 a4 a5 a6 a7 _ h; exact absurd h (Nat.not_lt_zero _)
    | succ n ih => intro a0 a1 a2 a3 a4 a5 a6 a7 h hm; exact step (wl_Mod_apart_93 post rec67 n) a0 a1 a2 a3 a4 a5 a6 a7 h (fun b0 b1 b2 b3 b4 b5 b6 b7 hb hlt => ih b0 b1 b2 b3 b4 b5 b6 b7 hb (Nat.lt_of_lt_of_le hlt (Nat.le_of_lt_succ hm)))
  exact fun a0 a1 a2 a3 a4 a5 a6 a7 h => ⟨_, key _ a0 a1 a2 a3 a4 a5 a6 a7 h (Nat.lt_succ_self _)⟩
theorem lp_Mod_apart_67 {post : St → Prop} (I : Int32 → Int32 → Int32 → Int32 → Int32 → Int32 → Int32 → St → Prop) (m : Int32 → Int32 → Int32 → Int32 → Int32 → Int32 → Int32 → St → Nat)
    (step : ∀ (R : Int32 → Int32 → Int32 → Int32 → Int32 → Int32 → Int32 → St → Prop) (a0 : Int32) (a1 : Int32) (a2 : Int32) (a3 : Int32) (a4 : Int32) (a5 : Int32) (a6 : Int32) (a7 : St), I a0 a1 a2 a3 a4 a5 a6 a7 → (∀ (b0 : Int32) (b1 : Int32) (b2 : Int32) (b3 : Int32) (b4 : Int32) (b5 : Int32) (b6 : Int32) (b7 : St), I b0 b1 b2 b3 b4 b5 b6 b7 → m b0 b1 b2 b3 b4 b5 b6 b7 < m a0 a1 a2 a3 a4 a5 a6 a7 → R b0 b1 b2 b3 b4 b5 b6 b7) → j_Mod_apart_67 post R a0 a1 a2 a3 a4 a5 a6 a7) :
    ∀ (a0 : Int32) (a1 : Int32) (a2 : Int32) (a3 : Int32) (a4 : Int32) (a5 : Int32) (a6 : Int32) (a7 : St), I a0 a1 a2 a3 a4 a5 a6 a7 → ∃ n : Nat, wl_Mod_apart_67 post n a0 a1 a2 a3 a4 a5 a6 a7 := by
  have key : ∀ (n : Nat) (a0 : Int32) (a1 : Int32) (a2 : Int32) (a3 : Int32) (a4 : Int32) (a5 : Int32) (a6 : Int32) (a7 : St), I a0 a1 a2 a3 a4 a5 a6 a7 → m a0 a1 a2 a3 a4 a5 a6 a7 < n → wl_Mod_apart_67 post n a0 a1 a2 a3 a4 a5 a6 a7 := by
    intro n
    induction n with
    | zero => intro a0 a1 a2 a3 a4 a5 a6 a7 _ h; exact absurd h (Nat.not_lt_zero _)
    | succ n ih => intro a0 a1 a2 a3 a4 a5 a6 a7 h hm; exact step (wl_Mod_apart_67 post n) a0 a1 a2 a3 a4 a5 a6 a7 h (fun b0 b1 b2 b3 b4 b5 b6 b7 hb hlt => ih b0 b1 b2 b3 b4 b5 b6 b7 hb (Nat.lt_of_lt_of_le hlt (Nat.le_of_lt_succ hm)))
  exact fun a0 a1 a2 a3 a4 a5 a6 a7 h => ⟨_, key _ a0 a1 a2 a3 a4 a5 a6 a7 h (Nat.lt_succ_self _)⟩
theorem lp_Mod_openChunk_221 {post : St → Prop} (I : Int32 → Int32 → Int32 → Int32 → Int32 → Int32 → Int32 → Int32 → Int32 → Int32 → Int32 → Int32 → St → Prop) (m : Int32 → Int32 → Int32 → Int32 → Int32 → Int32 → Int32 → Int32 → Int32 → Int32 → Int32 → Int32 → St → Nat)
    (step : ∀ (R : Int32 → Int32 → Int32 → Int32 → Int32 → Int32 → Int32 → Int32 → Int32 → Int32 → Int32 → Int32 → St → Prop) (a0 : Int32) (a1 : Int32) (a2 : Int32) (a3 : Int32) (a4 : Int32) (a5 : Int32) (a6 : Int32) (a7 : Int32) (a8 : Int32) (a9 : Int32) (a10 : Int32) (a11 : Int32) (a12 : St), I a0 a1 a2 a3 a4 a5 a6 a7 a8 a9 a10 a11 a12 → (∀ (b0 : Int32) (b1 : Int32) (b2 : Int32) (b3 : Int32) (b4 : Int32) (b5 : Int32) (b6 : Int32) (b7 : Int32) (b8 : Int32) (b9 : Int32) (b10 : Int32) (b11 : Int32) (b12 : St), I b0 b1 b2 b3 b4 b5 b6 b7 b8 b9 b10 b11 b12 → m b0 b1 b2 b3 b4 b5 b6 b7 b8 b9 b10 b11 b12 < m a0 a1 a2 a3 a4 a5 a6 a7 a8 a9 a10 a11 a12 → R b0 b1 b2 b3 b4 b5 b6 b7 b8 b9 b10 b11 b12) → j_Mod_openChunk_221 post R a0 a1 a2 a3 a4 a5 a6 a7 a8 a9 a10 a11 a12) :
    ∀ (a0 : Int32) (a1 : Int32) (a2 : Int32) (a3 : Int32) (a4 : Int32) (a5 : Int32) (a6 : Int32) (a7 : Int32) (a8 : Int32) (a9 : Int32) (a10 : Int32) (a11 : Int32) (a12 : St), I a0 a1 a2 a3 a4 a5 a6 a7 a8 a9 a10 a11 a12 → ∃ n : Nat, wl_Mod_openChunk_221 post n a0 a1 a2 a3 a4 a5 a6 a7 a8 a9 a10 a11 a12 := by
  have key : ∀ (n : Nat) (a0 : Int32) (a1 : Int32) (a2 : Int32) (a3 : Int32) (a4 : Int32) (a5 : Int32) (a6 : Int32) (a7 : Int32) (a8 : Int32) (a9 : Int32) (a10 : Int32) (a11 : Int32) (a12 : St), I a0 a1 a2 a3 a4 a5 a6 a7 a8 a9 a10 a11 a12 → m a0 a1 a2 a3 a4 a5 a6 a7 a8 a9 a10 a11 a12 < n → wl_Mod_openChunk_221 post n a0 a1 a2 a3 a4 a5 a6 a7 a8 a9 a10 a11 a12 := by
    intro n
    induction n with
    | zero => intro a0 a1 a2 a3 a4 a5 a6 a7 a8 a9 a10 a11 a12 _ h; exact absurd h (Nat.not_lt_zero _)
    | succ n ih => intro a0 a1 a2 a3 a4 a5 a6 a7 a8 a9 a10 a11 a12 h hm; exact step (wl_Mod_openChunk_221 post n) a0 a1 a2 a3 a4 a5 a6 a7 a8 a9 a10 a11 a12 h (fun b0 b1 b2 b3 b4 b5 b6 b7 b8 b9 b10 b11 b12 hb hlt => ih b0 b1 b2 b3 b4 b5 b6 b7 b8 b9 b10 b11 b12 hb (Nat.lt_of_lt_of_le hlt (Nat.le_of_lt_succ hm)))
  exact fun a0 a1 a2 a3 a4 a5 a6 a7 a8 a9 a10 a11 a12 h => ⟨_, key _ a0 a1 a2 a3 a4 a5 a6 a7 a8 a9 a10 a11 a12 h (Nat.lt_succ_self _)⟩
theorem lp_Mod_openChunk_67 {post : St → Prop} (I : Int32 → Int32 → Int32 → Int32 → Int32 → Int32 → Int32 → Int32 → Int32 → St → Prop) (m : Int32 → Int32 → Int32 → Int32 → Int32 → Int32 → Int32 → Int32 → Int32 → St → Nat)
    (step : ∀ (R : Int32 → Int32 → Int32 → Int32 → Int32 → Int32 → Int32 → Int32 → Int32 → St → Prop) (a0 : Int32) (a1 : Int32) (a2 : Int32) (a3 : Int32) (a4 : Int32) (a5 : Int32) (a6 : Int32) (a7 : Int32) (a8 : Int32) (a9 : St), I a0 a1 a2 a3 a4 a5 a6 a7 a8 a9 → (∀ (b0 : Int32) (b1 : Int32) (b2 : Int32) (b3 : Int32) (b4 : Int32) (b5 : Int32) (b6 : Int32) (b7 : Int32) (b8 : Int32) (b9 : St), I b0 b1 b2 b3 b4 b5 b6 b7 b8 b9 → m b0 b1 b2 b3 b4 b5 b6 b7 b8 b9 < m a0 a1 a2 a3 a4 a5 a6 a7 a8 a9 → R b0 b1 b2 b3 b4 b5 b6 b7 b8 b9) → j_Mod_openChunk_67 post R a0 a1 a2 a3 a4 a5 a6 a7 a8 a9) :
    ∀ (a0 : Int32) (a1 : Int32) (a2 : Int32) (a3 : Int32) (a4 : Int32) (a5 : Int32) (a6 : Int32) (a7 : Int32) (a8 : Int32) (a9 : St), I a0 a1 a2 a3 a4 a5 a6 a7 a8 a9 → ∃ n : Nat, wl_Mod_openChunk_67 post n a0 a1 a2 a3 a4 a5 a6 a7 a8 a9 := by
  have key : ∀ (n : Nat) (a0 : Int32) (a1 : Int32) (a2 : Int32) (a3 : Int32) (a4 : Int32) (a5 : Int32) (a6 : Int32) (a7 : Int32) (a8 : Int32) (a9 : St), I a0 a1 a2 a3 a4 a5 a6 a7 a8 a9 → m a0 a1 a2 a3 a4 a5 a6 a7 a8 a9 < n → wl_Mod_openChunk_67 post n a0 a1 a2 a3 a4 a5 a6 a7 a8 a9 := by
    intro n
    induction n with
    | zero => intro a0 a1 a2 a3 a4 a5 a6 a7 a8 a9 _ h; exact absurd h (Nat.not_lt_zero _)
    | succ n ih => intro a0 a1 a2 a3 a4 a5 a6 a7 a8 a9 h hm; exact step (wl_Mod_openChunk_67 post n) a0 a1 a2 a3 a4 a5 a6 a7 a8 a9 h (fun b0 b1 b2 b3 b4 b5 b6 b7 b8 b9 hb hlt => ih b0 b1 b2 b3 b4 b5 b6 b7 b8 b9 hb (Nat.lt_of_lt_of_le hlt (Nat.le_of_lt_succ hm)))
  exact fun a0 a1 a2 a3 a4 a5 a6 a7 a8 a9 h => ⟨_, key _ a0 a1 a2 a3 a4 a5 a6 a7 a8 a9 h (Nat.lt_succ_self _)⟩
theorem lp_Mod_open_191 {post : Int32 → St → Prop} (I : Int32 → Int32 → St → Prop) (m : Int32 → Int32 → St → Nat)
    (step : ∀ (R : Int32 → Int32 → St → Prop) (a0 : Int32) (a1 : Int32) (a2 : St), I a0 a1 a2 → (∀ (b0 : Int32) (b1 : Int32) (b2 : St), I b0 b1 b2 → m b0 b1 b2 < m a0 a1 a2 → R b0 b1 b2) → j_Mod_open_191 post R a0 a1 a2) :
    ∀ (a0 : Int32) (a1 : Int32) (a2 : St), I a0 a1 a2 → ∃ n : Nat, wl_Mod_open_191 post n a0 a1 a2 := by
  have key : ∀ (n : Nat) (a0 : Int32) (a1 : Int32) (a2 : St), I a0 a1 a2 → m a0 a1 a2 < n → wl_Mod_open_191 post n a0 a1 a2 := by
    intro n
    induction n with
    | zero => intro a0 a1 a2 _ h; exact absurd h (Nat.not_lt_zero _)
    | succ n ih => intro a0 a1 a2 h hm; exact step (wl_Mod_open_191 post n) a0 a1 a2 h (fun b0 b1 b2 hb hlt => ih b0 b1 b2 hb (Nat.lt_of_lt_of_le hlt (Nat.le_of_lt_succ hm)))
  exact fun a0 a1 a2 h => ⟨_, key _ a0 a1 a2 h (Nat.lt_succ_self _)⟩
theorem lp_Mod_open_132 {post : Int32 → St → Prop} {rec115 : Int32 → Int32 → St → Prop} (I : Int32 → Int32 → Int32 → St → Prop) (m : Int32 → Int32 → Int32 → St → Nat)
    (step : ∀ (R : Int32 → Int32 → Int32 → St → Prop) (a0 : Int32) (a1 : Int32) (a2 : Int32) (a3 : St), I a0 a1 a2 a3 → (∀ (b0 : Int32) (b1 : Int32) (b2 : Int32) (b3 : St), I b0 b1 b2 b3 → m b0 b1 b2 b3 < m a0 a1 a2 a3 → R b0 b1 b2 b3) → j_Mod_open_132 post rec115 R a0 a1 a2 a3) :
    ∀ (a0 : Int32) (a1 : Int32) (a2 : Int32) (a3 : St), I a0 a1 a2 a3 → ∃ n : Nat, wl_Mod_open_132 post rec115 n a0 a1 a2 a3 := by
  have key : ∀ (n : Nat) (a0 : Int32) (a1 : Int32) (a2 : Int32) (a3 : St), I a0 a1 a2 a3 → m a0 a1 a2 a3 < n → wl_Mod_open_132 post rec115 n a0 a1 a2 a3 := by
    intro n
    induction n with
    | zero => intro a0 a1 a2 a3 _ h; exact absurd h (Nat.not_lt_zero _)
    | succ n ih => intro a0 a1 a2 a3 h hm; exact step (wl_Mod_open_132 post rec115 n) a0 a1 a2 a3 h (fun b0 b1 b2 b3 hb hlt => ih b0 b1 b2 b3 hb (Nat.lt_of_lt_of_le hlt (Nat.le_of_lt_succ hm)))
  exact fun a0 a1 a2 a3 h => ⟨_, key _ a0 a1 a2 a3 h (Nat.lt_succ_self _)⟩
theorem lp_Mod_open_115 {post : Int32 → St → Prop} (I : Int32 → Int32 → St → Prop) (m : Int32 → Int32 → St → Nat)
    (step : ∀ (R : Int32 → Int32 → St → Prop) (a0 : Int32) (a1 : Int32) (a2 : St), I a0 a1 a2 → (∀ (b0 : Int32) (b1 : Int32) (b2 : St), I b0 b1 b2 → m b0 b1 b2 < m a0 a1 a2 → R b0 b1 b2) → j_Mod_open_115 post R a0 a1 a2) :
    ∀ (a0 : Int32) (a1 : Int32) (a2 : St), I a0 a1 a2 → ∃ n : Nat, wl_Mod_open_115 post n a0 a1 a2 := by
  have key : ∀ (n : Nat) (a0 : Int32) (a1 : Int32) (a2 : St), I a0 a1 a2 → m a0 a1 a2 < n → wl_Mod_open_115 post n a0 a1 a2 := by
    intro n
    induction n with
    | zero => intro a0 a1 a2 _ h; exact absurd h (Nat.not_lt_zero _)
    | succ n ih => intro a0 a1 a2 h hm; exact step (wl_Mod_open_115 post n) a0 a1 a2 h (fun b0 b1 b2 hb hlt => ih b0 b1 b2 hb (Nat.lt_of_lt_of_le hlt (Nat.le_of_lt_succ hm)))
  exact fun a0 a1 a2 h => ⟨_, key _ a0 a1 a2 h (Nat.lt_succ_self _)⟩
theorem lp_Mod_open_22 {post : Int32 → St → Prop} (I : Int32 → St → Prop) (m : Int32 → St → Nat)
    (step : ∀ (R : Int32 → St → Prop) (a0 : Int32) (a1 : St), I a0 a1 → (∀ (b0 : Int32) (b1 : St), I b0 b1 → m b0 b1 < m a0 a1 → R b0 b1) → j_Mod_open_22 post R a0 a1) :
    ∀ (a0 : Int32) (a1 : St), I a0 a1 → ∃ n : Nat, wl_Mod_open_22 post n a0 a1 := by
  have key : ∀ (n : Nat) (a0 : Int32) (a1 : St), I a0 a1 → m a0 a1 < n → wl_Mod_open_22 post n a0 a1 := by
    intro n
    induction n with
    | zero => intro a0 a1 _ h; exact absurd h (Nat.not_lt_zero _)
    | succ n ih => intro a0 a1 h hm; exact step (wl_Mod_open_22 post n) a0 a1 h (fun b0 b1 hb hlt => ih b0 b1 hb (Nat.lt_of_lt_of_le hlt (Nat.le_of_lt_succ hm)))
  exact fun a0 a1 h => ⟨_, key _ a0 a1 h (Nat.lt_succ_self _)⟩
theorem lp_Mod_groupOf_9 {post : Int32 → St → Prop} (I : Int32 → Int32 → Int32 → St → Prop) (m : Int32 → Int32 → Int32 → St → Nat)
    (step : ∀ (R : Int32 → Int32 → Int32 → St → Prop) (a0 : Int32) (a1 : Int32) (a2 : Int32) (a3 : St), I a0 a1 a2 a3 → (∀ (b0 : Int32) (b1 : Int32) (b2 : Int32) (b3 : St), I b0 b1 b2 b3 → m b0 b1 b2 b3 < m a0 a1 a2 a3 → R b0 b1 b2 b3) → j_Mod_groupOf_9 post R a0 a1 a2 a3) :
    ∀ (a0 : Int32) (a1 : Int32) (a2 : Int32) (a3 : St), I a0 a1 a2 a3 → ∃ n : Nat, wl_Mod_groupOf_9 post n a0 a1 a2 a3 := by
  have key : ∀ (n : Nat) (a0 : Int32) (a1 : Int32) (a2 : Int32) (a3 : St), I a0 a1 a2 a3 → m a0 a1 a2 a3 < n → wl_Mod_groupOf_9 post n a0 a1 a2 a3 := by
    intro n
    induction n with
    | zero => intro a0 a1 a2 a3 _ h; exact absurd h (Nat.not_lt_zero _)
    | succ n ih => intro a0 a1 a2 a3 h hm; exact step (wl_Mod_groupOf_9 post n) a0 a1 a2 a3 h (fun b0 b1 b2 b3 hb hlt => ih b0 b1 b2 b3 hb (Nat.lt_of_lt_of_le hlt (Nat.le_of_lt_succ hm)))
  exact fun a0 a1 a2 a3 h => ⟨_, key _ a0 a1 a2 a3 h (Nat.lt_succ_self _)⟩
theorem lp_Mod_firstRow_4 {post : Int32 → St → Prop} (I : Int32 → Int32 → Int32 → St → Prop) (m : Int32 → Int32 → Int32 → St → Nat)
    (step : ∀ (R : Int32 → Int32 → Int32 → St → Prop) (a0 : Int32) (a1 : Int32) (a2 : Int32) (a3 : St), I a0 a1 a2 a3 → (∀ (b0 : Int32) (b1 : Int32) (b2 : Int32) (b3 : St), I b0 b1 b2 b3 → m b0 b1 b2 b3 < m a0 a1 a2 a3 → R b0 b1 b2 b3) → j_Mod_firstRow_4 post R a0 a1 a2 a3) :
    ∀ (a0 : Int32) (a1 : Int32) (a2 : Int32) (a3 : St), I a0 a1 a2 a3 → ∃ n : Nat, wl_Mod_firstRow_4 post n a0 a1 a2 a3 := by
  have key : ∀ (n : Nat) (a0 : Int32) (a1 : Int32) (a2 : Int32) (a3 : St), I a0 a1 a2 a3 → m a0 a1 a2 a3 < n → wl_Mod_firstRow_4 post n a0 a1 a2 a3 := by
    intro n
    induction n with
    | zero => intro a0 a1 a2 a3 _ h; exact absurd h (Nat.not_lt_zero _)
    | succ n ih => intro a0 a1 a2 a3 h hm; exact step (wl_Mod_firstRow_4 post n) a0 a1 a2 a3 h (fun b0 b1 b2 b3 hb hlt => ih b0 b1 b2 b3 hb (Nat.lt_of_lt_of_le hlt (Nat.le_of_lt_succ hm)))
  exact fun a0 a1 a2 a3 h => ⟨_, key _ a0 a1 a2 a3 h (Nat.lt_succ_self _)⟩
theorem lp_Mod_goTo_104 {post : St → Prop} {rec8 : Int32 → Int32 → Int32 → St → Prop} (I : Int32 → Int32 → Int32 → Int32 → Int32 → Int32 → St → Prop) (m : Int32 → Int32 → Int32 → Int32 → Int32 → Int32 → St → Nat)
    (step : ∀ (R : Int32 → Int32 → Int32 → Int32 → Int32 → Int32 → St → Prop) (a0 : Int32) (a1 : Int32) (a2 : Int32) (a3 : Int32) (a4 : Int32) (a5 : Int32) (a6 : St), I a0 a1 a2 a3 a4 a5 a6 → (∀ (b0 : Int32) (b1 : Int32) (b2 : Int32) (b3 : Int32) (b4 : Int32) (b5 : Int32) (b6 : St), I b0 b1 b2 b3 b4 b5 b6 → m b0 b1 b2 b3 b4 b5 b6 < m a0 a1 a2 a3 a4 a5 a6 → R b0 b1 b2 b3 b4 b5 b6) → j_Mod_goTo_104 post rec8 R a0 a1 a2 a3 a4 a5 a6) :
    ∀ (a0 : Int32) (a1 : Int32) (a2 : Int32) (a3 : Int32) (a4 : Int32) (a5 : Int32) (a6 : St), I a0 a1 a2 a3 a4 a5 a6 → ∃ n : Nat, wl_Mod_goTo_104 post rec8 n a0 a1 a2 a3 a4 a5 a6 := by
  have key : ∀ (n : Nat) (a0 : Int32) (a1 : Int32) (a2 : Int32) (a3 : Int32) (a4 : Int32) (a5 : Int32) (a6 : St), I a0 a1 a2 a3 a4 a5 a6 → m a0 a1 a2 a3 a4 a5 a6 < n → wl_Mod_goTo_104 post rec8 n a0 a1 a2 a3 a4 a5 a6 := by
    intro n
    induction n with
    | zero => intro a0 a1 a2 a3 a4 a5 a6 _ h; exact absurd h (Nat.not_lt_zero _)
    | succ n ih => intro a0 a1 a2 a3 a4 a5 a6 h hm; exact step (wl_Mod_goTo_104 post rec8 n) a0 a1 a2 a3 a4 a5 a6 h (fun b0 b1 b2 b3 b4 b5 b6 hb hlt => ih b0 b1 b2 b3 b4 b5 b6 hb (Nat.lt_of_lt_of_le hlt (Nat.le_of_lt_succ hm)))
  exact fun a0 a1 a2 a3 a4 a5 a6 h => ⟨_, key _ a0 a1 a2 a3 a4 a5 a6 h (Nat.lt_succ_self _)⟩
theorem lp_Mod_goTo_71 {post : St → Prop} {rec8 : Int32 → Int32 → Int32 → St → Prop} {rec62 : Int32 → Int32 → Int32 → Int32 → Int32 → Int32 → St → Prop} (I : Int32 → Int32 → Int32 → Int32 → Int32 → Int32 → St → Prop) (m : Int32 → Int32 → Int32 → Int32 → Int32 → Int32 → St → Nat)
    (step : ∀ (R : Int32 → Int32 → Int32 → Int32 → Int32 → Int32 → St → Prop) (a0 : Int32) (a1 : Int32) (a2 : Int32) (a3 : Int32) (a4 : Int32) (a5 : Int32) (a6 : St), I a0 a1 a2 a3 a4 a5 a6 → (∀ (b0 : Int32) (b1 : Int32) (b2 : Int32) (b3 : Int32) (b4 : Int32) (b5 : Int32) (b6 : St), I b0 b1 b2 b3 b4 b5 b6 → m b0 b1 b2 b3 b4 b5 b6 < m a0 a1 a2 a3 a4 a5 a6 → R b0 b1 b2 b3 b4 b5 b6) → j_Mod_goTo_71 post rec8 rec62 R a0 a1 a2 a3 a4 a5 a6) :
    ∀ (a0 : Int32) (a1 : Int32) (a2 : Int32) (a3 : Int32) (a4 : Int32) (a5 : Int32) (a6 : St), I a0 a1 a2 a3 a4 a5 a6 → ∃ n : Nat, wl_Mod_goTo_71 post rec8 rec62 n a0 a1 a2 a3 a4 a5 a6 := by
  have key : ∀ (n : Nat) (a0 : Int32) (a1 : Int32) (a2 : Int32) (a3 : Int32) (a4 : Int32) (a5 : Int32) (a6 : St), I a0 a1 a2 a3 a4 a5 a6 → m a0 a1 a2 a3 a4 a5 a6 < n → wl_Mod_goTo_71 post rec8 rec62 n a0 a1 a2 a3 a4 a5 a6 := by
    intro n
    induction n with
    | zero => intro a0 a1 a2 a3 a4 a5 a6 _ h; exact absurd h (Nat.not_lt_zero _)
    | succ n ih => intro a0 a1 a2 a3 a4 a5 a6 h hm; exact step (wl_Mod_goTo_71 post rec8 rec62 n) a0 a1 a2 a3 a4 a5 a6 h (fun b0 b1 b2 b3 b4 b5 b6 hb hlt => ih b0 b1 b2 b3 b4 b5 b6 hb (Nat.lt_of_lt_of_le hlt (Nat.le_of_lt_succ hm)))
  exact fun a0 a1 a2 a3 a4 a5 a6 h => ⟨_, key _ a0 a1 a2 a3 a4 a5 a6 h (Nat.lt_succ_self _)⟩
theorem lp_Mod_goTo_62 {post : St → Prop} {rec8 : Int32 → Int32 → Int32 → St → Prop} (I : Int32 → Int32 → Int32 → Int32 → Int32 → Int32 → St → Prop) (m : Int32 → Int32 → Int32 → Int32 → Int32 → Int32 → St → Nat)
    (step : ∀ (R : Int32 → Int32 → Int32 → Int32 → Int32 → Int32 → St → Prop) (a0 : Int32) (a1 : Int32) (a2 : Int32) (a3 : Int32) (a4 : Int32) (a5 : Int32) (a6 : St), I a0 a1 a2 a3 a4 a5 a6 → (∀ (b0 : Int32) (b1 : Int32) (b2 : Int32) (b3 : Int32) (b4 : Int32) (b5 : Int32) (b6 : St), I b0 b1 b2 b3 b4 b5 b6 → m b0 b1 b2 b3 b4 b5 b6 < m a0 a1 a2 a3 a4 a5 a6 → R b0 b1 b2 b3 b4 b5 b6) → j_Mod_goTo_62 post rec8 R a0 a1 a2 a3 a4 a5 a6) :
    ∀ (a0 : Int32) (a1 : Int32) (a2 : Int32) (a3 : Int32) (a4 : Int32) (a5 : Int32) (a6 : St), I a0 a1 a2 a3 a4 a5 a6 → ∃ n : Nat, wl_Mod_goTo_62 post rec8 n a0 a1 a2 a3 a4 a5 a6 := by
  have key : ∀ (n : Nat) (a0 : Int32) (a1 : Int32) (a2 : Int32) (a3 : Int32) (a4 : Int32) (a5 : Int32) (a6 : St), I a0 a1 a2 a3 a4 a5 a6 → m a0 a1 a2 a3 a4 a5 a6 < n → wl_Mod_goTo_62 post rec8 n a0 a1 a2 a3 a4 a5 a6 := by
    intro n
    induction n with
    | zero => intro a0 a1 a2 a3 a4 a5 a6 _ h; exact absurd h (Nat.not_lt_zero _)
    | succ n ih => intro a0 a1 a2 a3 a4 a5 a6 h hm; exact step (wl_Mod_goTo_62 post rec8 n) a0 a1 a2 a3 a4 a5 a6 h (fun b0 b1 b2 b3 b4 b5 b6 hb hlt => ih b0 b1 b2 b3 b4 b5 b6 hb (Nat.lt_of_lt_of_le hlt (Nat.le_of_lt_succ hm)))
  exact fun a0 a1 a2 a3 a4 a5 a6 h => ⟨_, key _ a0 a1 a2 a3 a4 a5 a6 h (Nat.lt_succ_self _)⟩
theorem lp_Mod_goTo_8 {post : St → Prop} (I : Int32 → Int32 → Int32 → St → Prop) (m : Int32 → Int32 → Int32 → St → Nat)
    (step : ∀ (R : Int32 → Int32 → Int32 → St → Prop) (a0 : Int32) (a1 : Int32) (a2 : Int32) (a3 : St), I a0 a1 a2 a3 → (∀ (b0 : Int32) (b1 : Int32) (b2 : Int32) (b3 : St), I b0 b1 b2 b3 → m b0 b1 b2 b3 < m a0 a1 a2 a3 → R b0 b1 b2 b3) → j_Mod_goTo_8 post R a0 a1 a2 a3) :
    ∀ (a0 : Int32) (a1 : Int32) (a2 : Int32) (a3 : St), I a0 a1 a2 a3 → ∃ n : Nat, wl_Mod_goTo_8 post n a0 a1 a2 a3 := by
  have key : ∀ (n : Nat) (a0 : Int32) (a1 : Int32) (a2 : Int32) (a3 : St), I a0 a1 a2 a3 → m a0 a1 a2 a3 < n → wl_Mod_goTo_8 post n a0 a1 a2 a3 := by
    intro n
    induction n with
    | zero => intro a0 a1 a2 a3 _ h; exact absurd h (Nat.not_lt_zero _)
    | succ n ih => intro a0 a1 a2 a3 h hm; exact step (wl_Mod_goTo_8 post n) a0 a1 a2 a3 h (fun b0 b1 b2 b3 hb hlt => ih b0 b1 b2 b3 hb (Nat.lt_of_lt_of_le hlt (Nat.le_of_lt_succ hm)))
  exact fun a0 a1 a2 a3 h => ⟨_, key _ a0 a1 a2 a3 h (Nat.lt_succ_self _)⟩
theorem lp_Mod_isUnder_13 {post : Int32 → St → Prop} (I : Int32 → Int32 → Int32 → Int32 → St → Prop) (m : Int32 → Int32 → Int32 → Int32 → St → Nat)
    (step : ∀ (R : Int32 → Int32 → Int32 → Int32 → St → Prop) (a0 : Int32) (a1 : Int32) (a2 : Int32) (a3 : Int32) (a4 : St), I a0 a1 a2 a3 a4 → (∀ (b0 : Int32) (b1 : Int32) (b2 : Int32) (b3 : Int32) (b4 : St), I b0 b1 b2 b3 b4 → m b0 b1 b2 b3 b4 < m a0 a1 a2 a3 a4 → R b0 b1 b2 b3 b4) → j_Mod_isUnder_13 post R a0 a1 a2 a3 a4) :
    ∀ (a0 : Int32) (a1 : Int32) (a2 : Int32) (a3 : Int32) (a4 : St), I a0 a1 a2 a3 a4 → ∃ n : Nat, wl_Mod_isUnder_13 post n a0 a1 a2 a3 a4 := by
  have key : ∀ (n : Nat) (a0 : Int32) (a1 : Int32) (a2 : Int32) (a3 : Int32) (a4 : St), I a0 a1 a2 a3 a4 → m a0 a1 a2 a3 a4 < n → wl_Mod_isUnder_13 post n a0 a1 a2 a3 a4 := by
    intro n
    induction n with
    | zero => intro a0 a1 a2 a3 a4 _ h; exact absurd h (Nat.not_lt_zero _)
    | succ n ih => intro a0 a1 a2 a3 a4 h hm; exact step (wl_Mod_isUnder_13 post n) a0 a1 a2 a3 a4 h (fun b0 b1 b2 b3 b4 hb hlt => ih b0 b1 b2 b3 b4 hb (Nat.lt_of_lt_of_le hlt (Nat.le_of_lt_succ hm)))
  exact fun a0 a1 a2 a3 a4 h => ⟨_, key _ a0 a1 a2 a3 a4 h (Nat.lt_succ_self _)⟩
theorem lp_Mod_columnIn_11 {post : Int32 → St → Prop} (I : Int32 → Int32 → Int32 → St → Prop) (m : Int32 → Int32 → Int32 → St → Nat)
    (step : ∀ (R : Int32 → Int32 → Int32 → St → Prop) (a0 : Int32) (a1 : Int32) (a2 : Int32) (a3 : St), I a0 a1 a2 a3 → (∀ (b0 : Int32) (b1 : Int32) (b2 : Int32) (b3 : St), I b0 b1 b2 b3 → m b0 b1 b2 b3 < m a0 a1 a2 a3 → R b0 b1 b2 b3) → j_Mod_columnIn_11 post R a0 a1 a2 a3) :
    ∀ (a0 : Int32) (a1 : Int32) (a2 : Int32) (a3 : St), I a0 a1 a2 a3 → ∃ n : Nat, wl_Mod_columnIn_11 post n a0 a1 a2 a3 := by
  have key : ∀ (n : Nat) (a0 : Int32) (a1 : Int32) (a2 : Int32) (a3 : St), I a0 a1 a2 a3 → m a0 a1 a2 a3 < n → wl_Mod_columnIn_11 post n a0 a1 a2 a3 := by
    intro n
    induction n with
    | zero => intro a0 a1 a2 a3 _ h; exact absurd h (Nat.not_lt_zero _)
    | succ n ih => intro a0 a1 a2 a3 h hm; exact step (wl_Mod_columnIn_11 post n) a0 a1 a2 a3 h (fun b0 b1 b2 b3 hb hlt => ih b0 b1 b2 b3 hb (Nat.lt_of_lt_of_le hlt (Nat.le_of_lt_succ hm)))
  exact fun a0 a1 a2 a3 h => ⟨_, key _ a0 a1 a2 a3 h (Nat.lt_succ_self _)⟩
