theorem lp_Mod_pass_2 {post : St → Prop} (I : Int32 → Int32 → St → Prop) (m : Int32 → Int32 → St → Nat)
    (step : ∀ (R : Int32 → Int32 → St → Prop) (a0 : Int32) (a1 : Int32) (a2 : St), I a0 a1 a2 → (∀ (b0 : Int32) (b1 : Int32) (b2 : St), I b0 b1 b2 → m b0 b1 b2 < m a0 a1 a2 → R b0 b1 b2) → j_Mod_pass_2 post R a0 a1 a2) :
    ∀ (a0 : Int32) (a1 : Int32) (a2 : St), I a0 a1 a2 → ∃ n : Nat, wl_Mod_pass_2 post n a0 a1 a2 := by
  have key : ∀ (n : Nat) (a0 : Int32) (a1 : Int32) (a2 : St), I a0 a1 a2 → m a0 a1 a2 < n → wl_Mod_pass_2 post n a0 a1 a2 := by
    intro n
    induction n with
    | zero => intro a0 a1 a2 _ h; exact absurd h (Nat.not_lt_zero _)
    | succ n ih => intro a0 a1 a2 h hm; exact step (wl_Mod_pass_2 post n) a0 a1 a2 h (fun b0 b1 b2 hb hlt => ih b0 b1 b2 hb (Nat.lt_of_lt_of_le hlt (Nat.le_of_lt_succ hm)))
  exact fun a0 a1 a2 h => ⟨_, key _ a0 a1 a2 h (Nat.lt_succ_self _)⟩
theorem lp_Mod_tellText_8 {post : St → Prop} (I : Int32 → Int32 → St → Prop) (m : Int32 → Int32 → St → Nat)
    (step : ∀ (R : Int32 → Int32 → St → Prop) (a0 : Int32) (a1 : Int32) (a2 : St), I a0 a1 a2 → (∀ (b0 : Int32) (b1 : Int32) (b2 : St), I b0 b1 b2 → m b0 b1 b2 < m a0 a1 a2 → R b0 b1 b2) → j_Mod_tellText_8 post R a0 a1 a2) :
    ∀ (a0 : Int32) (a1 : Int32) (a2 : St), I a0 a1 a2 → ∃ n : Nat, wl_Mod_tellText_8 post n a0 a1 a2 := by
  have key : ∀ (n : Nat) (a0 : Int32) (a1 : Int32) (a2 : St), I a0 a1 a2 → m a0 a1 a2 < n → wl_Mod_tellText_8 post n a0 a1 a2 := by
    intro n
    induction n with
    | zero => intro a0 a1 a2 _ h; exact absurd h (Nat.not_lt_zero _)
    | succ n ih => intro a0 a1 a2 h hm; exact step (wl_Mod_tellText_8 post n) a0 a1 a2 h (fun b0 b1 b2 hb hlt => ih b0 b1 b2 hb (Nat.lt_of_lt_of_le hlt (Nat.le_of_lt_succ hm)))
  exact fun a0 a1 a2 h => ⟨_, key _ a0 a1 a2 h (Nat.lt_succ_self _)⟩
theorem lp_Mod_tellWord_3 {post : St → Prop} (I : Int64 → Int32 → St → Prop) (m : Int64 → Int32 → St → Nat)
    (step : ∀ (R : Int64 → Int32 → St → Prop) (a0 : Int64) (a1 : Int32) (a2 : St), I a0 a1 a2 → (∀ (b0 : Int64) (b1 : Int32) (b2 : St), I b0 b1 b2 → m b0 b1 b2 < m a0 a1 a2 → R b0 b1 b2) → j_Mod_tellWord_3 post R a0 a1 a2) :
    ∀ (a0 : Int64) (a1 : Int32) (a2 : St), I a0 a1 a2 → ∃ n : Nat, wl_Mod_tellWord_3 post n a0 a1 a2 := by
  have key : ∀ (n : Nat) (a0 : Int64) (a1 : Int32) (a2 : St), I a0 a1 a2 → m a0 a1 a2 < n → wl_Mod_tellWord_3 post n a0 a1 a2 := by
    intro n
    induction n with
    | zero => intro a0 a1 a2 _ h; exact absurd h (Nat.not_lt_zero _)
    | succ n ih => intro a0 a1 a2 h hm; exact step (wl_Mod_tellWord_3 post n) a0 a1 a2 h (fun b0 b1 b2 hb hlt => ih b0 b1 b2 hb (Nat.lt_of_lt_of_le hlt (Nat.le_of_lt_succ hm)))
  exact fun a0 a1 a2 h => ⟨_, key _ a0 a1 a2 h (Nat.lt_succ_self _)⟩
theorem lp_Mod_tellNumber_46 {post : St → Prop} (I : Int64 → Int64 → Int64 → St → Prop) (m : Int64 → Int64 → Int64 → St → Nat)
    (step : ∀ (R : Int64 → Int64 → Int64 → St → Prop) (a0 : Int64) (a1 : Int64) (a2 : Int64) (a3 : St), I a0 a1 a2 a3 → (∀ (b0 : Int64) (b1 : Int64) (b2 : Int64) (b3 : St), I b0 b1 b2 b3 → m b0 b1 b2 b3 < m a0 a1 a2 a3 → R b0 b1 b2 b3) → j_Mod_tellNumber_46 post R a0 a1 a2 a3) :
    ∀ (a0 : Int64) (a1 : Int64) (a2 : Int64) (a3 : St), I a0 a1 a2 a3 → ∃ n : Nat, wl_Mod_tellNumber_46 post n a0 a1 a2 a3 := by
  have key : ∀ (n : Nat) (a0 : Int64) (a1 : Int64) (a2 : Int64) (a3 : St), I a0 a1 a2 a3 → m a0 a1 a2 a3 < n → wl_Mod_tellNumber_46 post n a0 a1 a2 a3 := by
    intro n
    induction n with
    | zero => intro a0 a1 a2 a3 _ h; exact absurd h (Nat.not_lt_zero _)
    | succ n ih => intro a0 a1 a2 a3 h hm; exact step (wl_Mod_tellNumber_46 post n) a0 a1 a2 a3 h (fun b0 b1 b2 b3 hb hlt => ih b0 b1 b2 b3 hb (Nat.lt_of_lt_of_le hlt (Nat.le_of_lt_succ hm)))
  exact fun a0 a1 a2 a3 h => ⟨_, key _ a0 a1 a2 a3 h (Nat.lt_succ_self _)⟩
theorem lp_Mod_tellNumber_14 {post : St → Prop} (I : Int64 → Int64 → St → Prop) (m : Int64 → Int64 → St → Nat)
    (step : ∀ (R : Int64 → Int64 → St → Prop) (a0 : Int64) (a1 : Int64) (a2 : St), I a0 a1 a2 → (∀ (b0 : Int64) (b1 : Int64) (b2 : St), I b0 b1 b2 → m b0 b1 b2 < m a0 a1 a2 → R b0 b1 b2) → j_Mod_tellNumber_14 post R a0 a1 a2) :
    ∀ (a0 : Int64) (a1 : Int64) (a2 : St), I a0 a1 a2 → ∃ n : Nat, wl_Mod_tellNumber_14 post n a0 a1 a2 := by
  have key : ∀ (n : Nat) (a0 : Int64) (a1 : Int64) (a2 : St), I a0 a1 a2 → m a0 a1 a2 < n → wl_Mod_tellNumber_14 post n a0 a1 a2 := by
    intro n
    induction n with
    | zero => intro a0 a1 a2 _ h; exact absurd h (Nat.not_lt_zero _)
    | succ n ih => intro a0 a1 a2 h hm; exact step (wl_Mod_tellNumber_14 post n) a0 a1 a2 h (fun b0 b1 b2 hb hlt => ih b0 b1 b2 hb (Nat.lt_of_lt_of_le hlt (Nat.le_of_lt_succ hm)))
  exact fun a0 a1 a2 h => ⟨_, key _ a0 a1 a2 h (Nat.lt_succ_self _)⟩
theorem lp_Mod_tellGroup_184 {post : St → Prop} {self_Mod_tellGroup : (St → Prop) → Int32 → St → Prop} {self_Mod_tellOne : (St → Prop) → Int32 → Int32 → St → Prop} {rec10 : Int32 → Int32 → Int32 → St → Prop} (I : Int32 → Int32 → Int32 → Int32 → Int32 → St → Prop) (m : Int32 → Int32 → Int32 → Int32 → Int32 → St → Nat)
    (step : ∀ (R : Int32 → Int32 → Int32 → Int32 → Int32 → St → Prop) (a0 : Int32) (a1 : Int32) (a2 : Int32) (a3 : Int32) (a4 : Int32) (a5 : St), I a0 a1 a2 a3 a4 a5 → (∀ (b0 : Int32) (b1 : Int32) (b2 : Int32) (b3 : Int32) (b4 : Int32) (b5 : St), I b0 b1 b2 b3 b4 b5 → m b0 b1 b2 b3 b4 b5 < m a0 a1 a2 a3 a4 a5 → R b0 b1 b2 b3 b4 b5) → j_Mod_tellGroup_184 post self_Mod_tellGroup self_Mod_tellOne rec10 R a0 a1 a2 a3 a4 a5) :
    ∀ (a0 : Int32) (a1 : Int32) (a2 : Int32) (a3 : Int32) (a4 : Int32) (a5 : St), I a0 a1 a2 a3 a4 a5 → ∃ n : Nat, wl_Mod_tellGroup_184 post self_Mod_tellGroup self_Mod_tellOne rec10 n a0 a1 a2 a3 a4 a5 := by
  have key : ∀ (n : Nat) (a0 : Int32) (a1 : Int32) (a2 : Int32) (a3 : Int32) (a4 : Int32) (a5 : St), I a0 a1 a2 a3 a4 a5 → m a0 a1 a2 a3 a4 a5 < n → wl_Mod_tellGroup_184 post self_Mod_tellGroup self_Mod_tellOne rec10 n a0 a1 a2 a3 a4 a5 := by
    intro n
    induction n with
    | zero => intro a0 a1 a2 a3 a4 a5 _ h; exact absurd h (Nat.not_lt_zero _)
    | succ n ih => intro a0 a1 a2 a3 a4 a5 h hm; exact step (wl_Mod_tellGroup_184 post self_Mod_tellGroup self_Mod_tellOne rec10 n) a0 a1 a2 a3 a4 a5 h (fun b0 b1 b2 b3 b4 b5 hb hlt => ih b0 b1 b2 b3 b4 b5 hb (Nat.lt_of_lt_of_le hlt (Nat.le_of_lt_succ hm)))
  exact fun a0 a1 a2 a3 a4 a5 h => ⟨_, key _ a0 a1 a2 a3 a4 a5 h (Nat.lt_succ_self _)⟩
theorem lp_Mod_tellGroup_98 {post : St → Prop} {self_Mod_tellGroup : (St → Prop) → Int32 → St → Prop} {self_Mod_tellOne : (St → Prop) → Int32 → Int32 → St → Prop} {rec10 : Int32 → Int32 → Int32 → St → Prop} (I : Int32 → Int32 → Int32 → Int32 → Int32 → St → Prop) (m : Int32 → Int32 → Int32 → Int32 → Int32 → St → Nat)
    (step : ∀ (R : Int32 → Int32 → Int32 → Int32 → Int32 → St → Prop) (a0 : Int32) (a1 : Int32) (a2 : Int32) (a3 : Int32) (a4 : Int32) (a5 : St), I a0 a1 a2 a3 a4 a5 → (∀ (b0 : Int32) (b1 : Int32) (b2 : Int32) (b3 : Int32) (b4 : Int32) (b5 : St), I b0 b1 b2 b3 b4 b5 → m b0 b1 b2 b3 b4 b5 < m a0 a1 a2 a3 a4 a5 → R b0 b1 b2 b3 b4 b5) → j_Mod_tellGroup_98 post self_Mod_tellGroup self_Mod_tellOne rec10 R a0 a1 a2 a3 a4 a5) :
    ∀ (a0 : Int32) (a1 : Int32) (a2 : Int32) (a3 : Int32) (a4 : Int32) (a5 : St), I a0 a1 a2 a3 a4 a5 → ∃ n : Nat, wl_Mod_tellGroup_98 post self_Mod_tellGroup self_Mod_tellOne rec10 n a0 a1 a2 a3 a4 a5 := by
  have key : ∀ (n : Nat) (a0 : Int32) (a1 : Int32) (a2 : Int32) (a3 : Int32) (a4 : Int32) (a5 : St), I a0 a1 a2 a3 a4 a5 → m a0 a1 a2 a3 a4 a5 < n → wl_Mod_tellGroup_98 post self_Mod_tellGroup self_Mod_tellOne rec10 n a0 a1 a2 a3 a4 a5 := by
    intro n
    induction n with
    | zero => intro a0 a1 a2 a3 a4 a5 _ h; exact absurd h (Nat.not_lt_zero _)
    | succ n ih => intro a0 a1 a2 a3 a4 a5 h hm; exact step (wl_Mod_tellGroup_98 post self_Mod_tellGroup self_Mod_tellOne rec10 n) a0 a1 a2 a3 a4 a5 h (fun b0 b1 b2 b3 b4 b5 hb hlt => ih b0 b1 b2 b3 b4 b5 hb (Nat.lt_of_lt_of_le hlt (Nat.le_of_lt_succ hm)))
  exact fun a0 a1 a2 a3 a4 a5 h => ⟨_, key _ a0 a1 a2 a3 a4 a5 h (Nat.lt_succ_self _)⟩
theorem lp_Mod_tellGroup_10 {post : St → Prop} {self_Mod_tellGroup : (St → Prop) → Int32 → St → Prop} {self_Mod_tellOne : (St → Prop) → Int32 → Int32 → St → Prop} (I : Int32 → Int32 → Int32 → St → Prop) (m : Int32 → Int32 → Int32 → St → Nat)
    (step : ∀ (R : Int32 → Int32 → Int32 → St → Prop) (a0 : Int32) (a1 : Int32) (a2 : Int32) (a3 : St), I a0 a1 a2 a3 → (∀ (b0 : Int32) (b1 : Int32) (b2 : Int32) (b3 : St), I b0 b1 b2 b3 → m b0 b1 b2 b3 < m a0 a1 a2 a3 → R b0 b1 b2 b3) → j_Mod_tellGroup_10 post self_Mod_tellGroup self_Mod_tellOne R a0 a1 a2 a3) :
    ∀ (a0 : Int32) (a1 : Int32) (a2 : Int32) (a3 : St), I a0 a1 a2 a3 → ∃ n : Nat, wl_Mod_tellGroup_10 post self_Mod_tellGroup self_Mod_tellOne n a0 a1 a2 a3 := by
  have key : ∀ (n : Nat) (a0 : Int32) (a1 : Int32) (a2 : Int32) (a3 : St), I a0 a1 a2 a3 → m a0 a1 a2 a3 < n → wl_Mod_tellGroup_10 post self_Mod_tellGroup self_Mod_tellOne n a0 a1 a2 a3 := by
    intro n
    induction n with
    | zero => intro a0 a1 a2 a3 _ h; exact absurd h (Nat.not_lt_zero _)
    | succ n ih => intro a0 a1 a2 a3 h hm; exact step (wl_Mod_tellGroup_10 post self_Mod_tellGroup self_Mod_tellOne n) a0 a1 a2 a3 h (fun b0 b1 b2 b3 hb hlt => ih b0 b1 b2 b3 hb (Nat.lt_of_lt_of_le hlt (Nat.le_of_lt_succ hm)))
  exact fun a0 a1 a2 a3 h => ⟨_, key _ a0 a1 a2 a3 h (Nat.lt_succ_self _)⟩
theorem lp_Mod_show_33 {post : Int32 → St → Prop} (I : Int32 → Int32 → St → Prop) (m : Int32 → Int32 → St → Nat)
    (step : ∀ (R : Int32 → Int32 → St → Prop) (a0 : Int32) (a1 : Int32) (a2 : St), I a0 a1 a2 → (∀ (b0 : Int32) (b1 : Int32) (b2 : St), I b0 b1 b2 → m b0 b1 b2 < m a0 a1 a2 → R b0 b1 b2) → j_Mod_show_33 post R a0 a1 a2) :
    ∀ (a0 : Int32) (a1 : Int32) (a2 : St), I a0 a1 a2 → ∃ n : Nat, wl_Mod_show_33 post n a0 a1 a2 := by
  have key : ∀ (n : Nat) (a0 : Int32) (a1 : Int32) (a2 : St), I a0 a1 a2 → m a0 a1 a2 < n → wl_Mod_show_33 post n a0 a1 a2 := by
    intro n
    induction n with
    | zero => intro a0 a1 a2 _ h; exact absurd h (Nat.not_lt_zero _)
    | succ n ih => intro a0 a1 a2 h hm; exact step (wl_Mod_show_33 post n) a0 a1 a2 h (fun b0 b1 b2 hb hlt => ih b0 b1 b2 hb (Nat.lt_of_lt_of_le hlt (Nat.le_of_lt_succ hm)))
  exact fun a0 a1 a2 h => ⟨_, key _ a0 a1 a2 h (Nat.lt_succ_self _)⟩
theorem lp_Mod_path_8 {post : Int32 → St → Prop} (I : Int32 → Int32 → St → Prop) (m : Int32 → Int32 → St → Nat)
    (step : ∀ (R : Int32 → Int32 → St → Prop) (a0 : Int32) (a1 : Int32) (a2 : St), I a0 a1 a2 → (∀ (b0 : Int32) (b1 : Int32) (b2 : St), I b0 b1 b2 → m b0 b1 b2 < m a0 a1 a2 → R b0 b1 b2) → j_Mod_path_8 post R a0 a1 a2) :
    ∀ (a0 : Int32) (a1 : Int32) (a2 : St), I a0 a1 a2 → ∃ n : Nat, wl_Mod_path_8 post n a0 a1 a2 := by
  have key : ∀ (n : Nat) (a0 : Int32) (a1 : Int32) (a2 : St), I a0 a1 a2 → m a0 a1 a2 < n → wl_Mod_path_8 post n a0 a1 a2 := by
    intro n
    induction n with
    | zero => intro a0 a1 a2 _ h; exact absurd h (Nat.not_lt_zero _)
    | succ n ih => intro a0 a1 a2 h hm; exact step (wl_Mod_path_8 post n) a0 a1 a2 h (fun b0 b1 b2 hb hlt => ih b0 b1 b2 hb (Nat.lt_of_lt_of_le hlt (Nat.le_of_lt_succ hm)))
  exact fun a0 a1 a2 h => ⟨_, key _ a0 a1 a2 h (Nat.lt_succ_self _)⟩
theorem lp_Mod_isFlat_4 {post : Int32 → St → Prop} (I : Int32 → Int32 → Int32 → St → Prop) (m : Int32 → Int32 → Int32 → St → Nat)
    (step : ∀ (R : Int32 → Int32 → Int32 → St → Prop) (a0 : Int32) (a1 : Int32) (a2 : Int32) (a3 : St), I a0 a1 a2 a3 → (∀ (b0 : Int32) (b1 : Int32) (b2 : Int32) (b3 : St), I b0 b1 b2 b3 → m b0 b1 b2 b3 < m a0 a1 a2 a3 → R b0 b1 b2 b3) → j_Mod_isFlat_4 post R a0 a1 a2 a3) :
    ∀ (a0 : Int32) (a1 : Int32) (a2 : Int32) (a3 : St), I a0 a1 a2 a3 → ∃ n : Nat, wl_Mod_isFlat_4 post n a0 a1 a2 a3 := by
  have key : ∀ (n : Nat) (a0 : Int32) (a1 : Int32) (a2 : Int32) (a3 : St), I a0 a1 a2 a3 → m a0 a1 a2 a3 < n → wl_Mod_isFlat_4 post n a0 a1 a2 a3 := by
    intro n
    induction n with
    | zero => intro a0 a1 a2 a3 _ h; exact absurd h (Nat.not_lt_zero _)
    | succ n ih => intro a0 a1 a2 a3 h hm; exact step (wl_Mod_isFlat_4 post n) a0 a1 a2 a3 h (fun b0 b1 b2 b3 hb hlt => ih b0 b1 b2 b3 hb (Nat.lt_of_lt_of_le hlt (Nat.le_of_lt_succ hm)))
  exact fun a0 a1 a2 a3 h => ⟨_, key _ a0 a1 a2 a3 h (Nat.lt_succ_self _)⟩
theorem lp_Mod_readAsked_121 {post : St → Prop} (I : Int32 → Int32 → Int32 → St → Prop) (m : Int32 → Int32 → Int32 → St → Nat)
    (step : ∀ (R : Int32 → Int32 → Int32 → St → Prop) (a0 : Int32) (a1 : Int32) (a2 : Int32) (a3 : St), I a0 a1 a2 a3 → (∀ (b0 : Int32) (b1 : Int32) (b2 : Int32) (b3 : St), I b0 b1 b2 b3 → m b0 b1 b2 b3 < m a0 a1 a2 a3 → R b0 b1 b2 b3) → j_Mod_readAsked_121 post R a0 a1 a2 a3) :
    ∀ (a0 : Int32) (a1 : Int32) (a2 : Int32) (a3 : St), I a0 a1 a2 a3 → ∃ n : Nat, wl_Mod_readAsked_121 post n a0 a1 a2 a3 := by
  have key : ∀ (n : Nat) (a0 : Int32) (a1 : Int32) (a2 : Int32) (a3 : St), I a0 a1 a2 a3 → m a0 a1 a2 a3 < n → wl_Mod_readAsked_121 post n a0 a1 a2 a3 := by
    intro n
    induction n with
    | zero => intro a0 a1 a2 a3 _ h; exact absurd h (Nat.not_lt_zero _)
    | succ n ih => intro a0 a1 a2 a3 h hm; exact step (wl_Mod_readAsked_121 post n) a0 a1 a2 a3 h (fun b0 b1 b2 b3 hb hlt => ih b0 b1 b2 b3 hb (Nat.lt_of_lt_of_le hlt (Nat.le_of_lt_succ hm)))
  exact fun a0 a1 a2 a3 h => ⟨_, key _ a0 a1 a2 a3 h (Nat.lt_succ_self _)⟩
theorem lp_Mod_readTest_0 {post : St → Prop} (I : St → Prop) (m : St → Nat)
    (step : ∀ (R : St → Prop) (a0 : St), I a0 → (∀ (b0 : St), I b0 → m b0 < m a0 → R b0) → j_Mod_readTest_0 post R a0) :
    ∀ (a0 : St), I a0 → ∃ n : Nat, wl_Mod_readTest_0 post n a0 := by
  have key : ∀ (n : Nat) (a0 : St), I a0 → m a0 < n → wl_Mod_readTest_0 post n a0 := by
    intro n
    induction n with
    | zero => intro a0 _ h; exact absurd h (Nat.not_lt_zero _)
    | succ n ih => intro a0 h hm; exact step (wl_Mod_readTest_0 post n) a0 h (fun b0 hb hlt => ih b0 hb (Nat.lt_of_lt_of_le hlt (Nat.le_of_lt_succ hm)))
  exact fun a0 h => ⟨_, key _ a0 h (Nat.lt_succ_self _)⟩
theorem lp_Mod_joins_0 {post : St → Prop} (I : Int32 → St → Prop) (m : Int32 → St → Nat)
    (step : ∀ (R : Int32 → St → Prop) (a0 : Int32) (a1 : St), I a0 a1 → (∀ (b0 : Int32) (b1 : St), I b0 b1 → m b0 b1 < m a0 a1 → R b0 b1) → j_Mod_joins_0 post R a0 a1) :
    ∀ (a0 : Int32) (a1 : St), I a0 a1 → ∃ n : Nat, wl_Mod_joins_0 post n a0 a1 := by
  have key : ∀ (n : Nat) (a0 : Int32) (a1 : St), I a0 a1 → m a0 a1 < n → wl_Mod_joins_0 post n a0 a1 := by
    intro n
    induction n with
    | zero => intro a0 a1 _ h; exact absurd h (Nat.not_lt_zero _)
    | succ n ih => intro a0 a1 h hm; exact step (wl_Mod_joins_0 post n) a0 a1 h (fun b0 b1 hb hlt => ih b0 b1 hb (Nat.lt_of_lt_of_le hlt (Nat.le_of_lt_succ hm)))
  exact fun a0 a1 h => ⟨_, key _ a0 a1 h (Nat.lt_succ_self _)⟩
theorem lp_Mod_readCondition_14 {post : St → Prop} (I : St → Prop) (m : St → Nat)
    (step : ∀ (R : St → Prop) (a0 : St), I a0 → (∀ (b0 : St), I b0 → m b0 < m a0 → R b0) → j_Mod_readCondition_14 post R a0) :
    ∀ (a0 : St), I a0 → ∃ n : Nat, wl_Mod_readCondition_14 post n a0 := by
  have key : ∀ (n : Nat) (a0 : St), I a0 → m a0 < n → wl_Mod_readCondition_14 post n a0 := by
    intro n
    induction n with
    | zero => intro a0 _ h; exact absurd h (Nat.not_lt_zero _)
    | succ n ih => intro a0 h hm; exact step (wl_Mod_readCondition_14 post n) a0 h (fun b0 hb hlt => ih b0 hb (Nat.lt_of_lt_of_le hlt (Nat.le_of_lt_succ hm)))
  exact fun a0 h => ⟨_, key _ a0 h (Nat.lt_succ_self _)⟩
theorem lp_Mod_isBy_4 {post : Int32 → St → Prop} (I : Int32 → Int32 → Int32 → St → Prop) (m : Int32 → Int32 → Int32 → St → Nat)
    (step : ∀ (R : Int32 → Int32 → Int32 → St → Prop) (a0 : Int32) (a1 : Int32) (a2 : Int32) (a3 : St), I a0 a1 a2 a3 → (∀ (b0 : Int32) (b1 : Int32) (b2 : Int32) (b3 : St), I b0 b1 b2 b3 → m b0 b1 b2 b3 < m a0 a1 a2 a3 → R b0 b1 b2 b3) → j_Mod_isBy_4 post R a0 a1 a2 a3) :
    ∀ (a0 : Int32) (a1 : Int32) (a2 : Int32) (a3 : St), I a0 a1 a2 a3 → ∃ n : Nat, wl_Mod_isBy_4 post n a0 a1 a2 a3 := by
  have key : ∀ (n : Nat) (a0 : Int32) (a1 : Int32) (a2 : Int32) (a3 : St), I a0 a1 a2 a3 → m a0 a1 a2 a3 < n → wl_Mod_isBy_4 post n a0 a1 a2 a3 := by
    intro n
    induction n with
    | zero => intro a0 a1 a2 a3 _ h; exact absurd h (Nat.not_lt_zero _)
    | succ n ih => intro a0 a1 a2 a3 h hm; exact step (wl_Mod_isBy_4 post n) a0 a1 a2 a3 h (fun b0 b1 b2 b3 hb hlt => ih b0 b1 b2 b3 hb (Nat.lt_of_lt_of_le hlt (Nat.le_of_lt_succ hm)))
  exact fun a0 a1 a2 a3 h => ⟨_, key _ a0 a1 a2 a3 h (Nat.lt_succ_self _)⟩
theorem lp_Mod_collects_21 {post : Int32 → St → Prop} (I : Int32 → Int32 → Int32 → St → Prop) (m : Int32 → Int32 → Int32 → St → Nat)
    (step : ∀ (R : Int32 → Int32 → Int32 → St → Prop) (a0 : Int32) (a1 : Int32) (a2 : Int32) (a3 : St), I a0 a1 a2 a3 → (∀ (b0 : Int32) (b1 : Int32) (b2 : Int32) (b3 : St), I b0 b1 b2 b3 → m b0 b1 b2 b3 < m a0 a1 a2 a3 → R b0 b1 b2 b3) → j_Mod_collects_21 post R a0 a1 a2 a3) :
    ∀ (a0 : Int32) (a1 : Int32) (a2 : Int32) (a3 : St), I a0 a1 a2 a3 → ∃ n : Nat, wl_Mod_collects_21 post n a0 a1 a2 a3 := by
  have key : ∀ (n : Nat) (a0 : Int32) (a1 : Int32) (a2 : Int32) (a3 : St), I a0 a1 a2 a3 → m a0 a1 a2 a3 < n → wl_Mod_collects_21 post n a0 a1 a2 a3 := by
    intro n
    induction n with
    | zero => intro a0 a1 a2 a3 _ h; exact absurd h (Nat.not_lt_zero _)
    | succ n ih => intro a0 a1 a2 a3 h hm; exact step (wl_Mod_collects_21 post n) a0 a1 a2 a3 h (fun b0 b1 b2 b3 hb hlt => ih b0 b1 b2 b3 hb (Nat.lt_of_lt_of_le hlt (Nat.le_of_lt_succ hm)))
  exact fun a0 a1 a2 a3 h => ⟨_, key _ a0 a1 a2 a3 h (Nat.lt_succ_self _)⟩
theorem lp_Mod_query_389 {post : Int32 → St → Prop} (I : Int32 → Int32 → St → Prop) (m : Int32 → Int32 → St → Nat)
    (step : ∀ (R : Int32 → Int32 → St → Prop) (a0 : Int32) (a1 : Int32) (a2 : St), I a0 a1 a2 → (∀ (b0 : Int32) (b1 : Int32) (b2 : St), I b0 b1 b2 → m b0 b1 b2 < m a0 a1 a2 → R b0 b1 b2) → j_Mod_query_389 post R a0 a1 a2) :
    ∀ (a0 : Int32) (a1 : Int32) (a2 : St), I a0 a1 a2 → ∃ n : Nat, wl_Mod_query_389 post n a0 a1 a2 := by
  have key : ∀ (n : Nat) (a0 : Int32) (a1 : Int32) (a2 : St), I a0 a1 a2 → m a0 a1 a2 < n → wl_Mod_query_389 post n a0 a1 a2 := by
    intro n
    induction n with
    | zero => intro a0 a1 a2 _ h; exact absurd h (Nat.not_lt_zero _)
    | succ n ih => intro a0 a1 a2 h hm; exact step (wl_Mod_query_389 post n) a0 a1 a2 h (fun b0 b1 b2 hb hlt => ih b0 b1 b2 hb (Nat.lt_of_lt_of_le hlt (Nat.le_of_lt_succ hm)))
  exact fun a0 a1 a2 h => ⟨_, key _ a0 a1 a2 h (Nat.lt_succ_self _)⟩
theorem lp_Mod_query_293 {post : Int32 → St → Prop} (I : Int32 → Int32 → St → Prop) (m : Int32 → Int32 → St → Nat)
    (step : ∀ (R : Int32 → Int32 → St → Prop) (a0 : Int32) (a1 : Int32) (a2 : St), I a0 a1 a2 → (∀ (b0 : Int32) (b1 : Int32) (b2 : St), I b0 b1 b2 → m b0 b1 b2 < m a0 a1 a2 → R b0 b1 b2) → j_Mod_query_293 post R a0 a1 a2) :
    ∀ (a0 : Int32) (a1 : Int32) (a2 : St), I a0 a1 a2 → ∃ n : Nat, wl_Mod_query_293 post n a0 a1 a2 := by
  have key : ∀ (n : Nat) (a0 : Int32) (a1 : Int32) (a2 : St), I a0 a1 a2 → m a0 a1 a2 < n → wl_Mod_query_293 post n a0 a1 a2 := by
    intro n
    induction n with
    | zero => intro a0 a1 a2 _ h; exact absurd h (Nat.not_lt_zero _)
    | succ n ih => intro a0 a1 a2 h hm; exact step (wl_Mod_query_293 post n) a0 a1 a2 h (fun b0 b1 b2 hb hlt => ih b0 b1 b2 hb (Nat.lt_of_lt_of_le hlt (Nat.le_of_lt_succ hm)))
  exact fun a0 a1 a2 h => ⟨_, key _ a0 a1 a2 h (Nat.lt_succ_self _)⟩
theorem lp_Mod_query_219 {post : Int32 → St → Prop} (I : Int32 → St → Prop) (m : Int32 → St → Nat)
    (step : ∀ (R : Int32 → St → Prop) (a0 : Int32) (a1 : St), I a0 a1 → (∀ (b0 : Int32) (b1 : St), I b0 b1 → m b0 b1 < m a0 a1 → R b0 b1) → j_Mod_query_219 post R a0 a1) :
    ∀ (a0 : Int32) (a1 : St), I a0 a1 → ∃ n : Nat, wl_Mod_query_219 post n a0 a1 := by
  have key : ∀ (n : Nat) (a0 : Int32) (a1 : St), I a0 a1 → m a0 a1 < n → wl_Mod_query_219 post n a0 a1 := by
    intro n
    induction n with
    | zero => intro a0 a1 _ h; exact absurd h (Nat.not_lt_zero _)
    | succ n ih => intro a0 a1 h hm; exact step (wl_Mod_query_219 post n) a0 a1 h (fun b0 b1 hb hlt => ih b0 b1 hb (Nat.lt_of_lt_of_le hlt (Nat.le_of_lt_succ hm)))
  exact fun a0 a1 h => ⟨_, key _ a0 a1 h (Nat.lt_succ_self _)⟩
theorem lp_Mod_query_149 {post : Int32 → St → Prop} (I : Int32 → St → Prop) (m : Int32 → St → Nat)
    (step : ∀ (R : Int32 → St → Prop) (a0 : Int32) (a1 : St), I a0 a1 → (∀ (b0 : Int32) (b1 : St), I b0 b1 → m b0 b1 < m a0 a1 → R b0 b1) → j_Mod_query_149 post R a0 a1) :
    ∀ (a0 : Int32) (a1 : St), I a0 a1 → ∃ n : Nat, wl_Mod_query_149 post n a0 a1 := by
  have key : ∀ (n : Nat) (a0 : Int32) (a1 : St), I a0 a1 → m a0 a1 < n → wl_Mod_query_149 post n a0 a1 := by
    intro n
    induction n with
    | zero => intro a0 a1 _ h; exact absurd h (Nat.not_lt_zero _)
    | succ n ih => intro a0 a1 h hm; exact step (wl_Mod_query_149 post n) a0 a1 h (fun b0 b1 hb hlt => ih b0 b1 hb (Nat.lt_of_lt_of_le hlt (Nat.le_of_lt_succ hm)))
  exact fun a0 a1 h => ⟨_, key _ a0 a1 h (Nat.lt_succ_self _)⟩
theorem lp_Mod_query_89 {post : Int32 → St → Prop} (I : Int32 → St → Prop) (m : Int32 → St → Nat)
    (step : ∀ (R : Int32 → St → Prop) (a0 : Int32) (a1 : St), I a0 a1 → (∀ (b0 : Int32) (b1 : St), I b0 b1 → m b0 b1 < m a0 a1 → R b0 b1) → j_Mod_query_89 post R a0 a1) :
    ∀ (a0 : Int32) (a1 : St), I a0 a1 → ∃ n : Nat, wl_Mod_query_89 post n a0 a1 := by
  have key : ∀ (n : Nat) (a0 : Int32) (a1 : St), I a0 a1 → m a0 a1 < n → wl_Mod_query_89 post n a0 a1 := by
    intro n
    induction n with
    | zero => intro a0 a1 _ h; exact absurd h (Nat.not_lt_zero _)
    | succ n ih => intro a0 a1 h hm; exact step (wl_Mod_query_89 post n) a0 a1 h (fun b0 b1 hb hlt => ih b0 b1 hb (Nat.lt_of_lt_of_le hlt (Nat.le_of_lt_succ hm)))
  exact fun a0 a1 h => ⟨_, key _ a0 a1 h (Nat.lt_succ_self _)⟩
theorem lp_Mod_query_38 {post : Int32 → St → Prop} (I : St → Prop) (m : St → Nat)
    (step : ∀ (R : St → Prop) (a0 : St), I a0 → (∀ (b0 : St), I b0 → m b0 < m a0 → R b0) → j_Mod_query_38 post R a0) :
    ∀ (a0 : St), I a0 → ∃ n : Nat, wl_Mod_query_38 post n a0 := by
  have key : ∀ (n : Nat) (a0 : St), I a0 → m a0 < n → wl_Mod_query_38 post n a0 := by
    intro n
    induction n with
    | zero => intro a0 _ h; exact absurd h (Nat.not_lt_zero _)
    | succ n ih => intro a0 h hm; exact step (wl_Mod_query_38 post n) a0 h (fun b0 hb hlt => ih b0 hb (Nat.lt_of_lt_of_le hlt (Nat.le_of_lt_succ hm)))
  exact fun a0 h => ⟨_, key _ a0 h (Nat.lt_succ_self _)⟩
theorem lp_Mod_asks_4 {post : Int32 → St → Prop} (I : Int32 → Int32 → Int32 → St → Prop) (m : Int32 → Int32 → Int32 → St → Nat)
    (step : ∀ (R : Int32 → Int32 → Int32 → St → Prop) (a0 : Int32) (a1 : Int32) (a2 : Int32) (a3 : St), I a0 a1 a2 a3 → (∀ (b0 : Int32) (b1 : Int32) (b2 : Int32) (b3 : St), I b0 b1 b2 b3 → m b0 b1 b2 b3 < m a0 a1 a2 a3 → R b0 b1 b2 b3) → j_Mod_asks_4 post R a0 a1 a2 a3) :
    ∀ (a0 : Int32) (a1 : Int32) (a2 : Int32) (a3 : St), I a0 a1 a2 a3 → ∃ n : Nat, wl_Mod_asks_4 post n a0 a1 a2 a3 := by
  have key : ∀ (n : Nat) (a0 : Int32) (a1 : Int32) (a2 : Int32) (a3 : St), I a0 a1 a2 a3 → m a0 a1 a2 a3 < n → wl_Mod_asks_4 post n a0 a1 a2 a3 := by
    intro n
    induction n with
    | zero => intro a0 a1 a2 a3 _ h; exact absurd h (Nat.not_lt_zero _)
    | succ n ih => intro a0 a1 a2 a3 h hm; exact step (wl_Mod_asks_4 post n) a0 a1 a2 a3 h (fun b0 b1 b2 b3 hb hlt => ih b0 b1 b2 b3 hb (Nat.lt_of_lt_of_le hlt (Nat.le_of_lt_succ hm)))
  exact fun a0 a1 a2 a3 h => ⟨_, key _ a0 a1 a2 a3 h (Nat.lt_succ_self _)⟩
theorem lp_Mod_againstLiteral_62 {post : Int32 → St → Prop} (I : Int32 → Int32 → Int32 → Int32 → St → Prop) (m : Int32 → Int32 → Int32 → Int32 → St → Nat)
    (step : ∀ (R : Int32 → Int32 → Int32 → Int32 → St → Prop) (a0 : Int32) (a1 : Int32) (a2 : Int32) (a3 : Int32) (a4 : St), I a0 a1 a2 a3 a4 → (∀ (b0 : Int32) (b1 : Int32) (b2 : Int32) (b3 : Int32) (b4 : St), I b0 b1 b2 b3 b4 → m b0 b1 b2 b3 b4 < m a0 a1 a2 a3 a4 → R b0 b1 b2 b3 b4) → j_Mod_againstLiteral_62 post R a0 a1 a2 a3 a4) :
    ∀ (a0 : Int32) (a1 : Int32) (a2 : Int32) (a3 : Int32) (a4 : St), I a0 a1 a2 a3 a4 → ∃ n : Nat, wl_Mod_againstLiteral_62 post n a0 a1 a2 a3 a4 := by
  have key : ∀ (n : Nat) (a0 : Int32) (a1 : Int32) (a2 : Int32) (a3 : Int32) (a4 : St), I a0 a1 a2 a3 a4 → m a0 a1 a2 a3 a4 < n → wl_Mod_againstLiteral_62 post n a0 a1 a2 a3 a4 := by
    intro n
    induction n with
    | zero => intro a0 a1 a2 a3 a4 _ h; exact absurd h (Nat.not_lt_zero _)
    | succ n ih => intro a0 a1 a2 a3 a4 h hm; exact step (wl_Mod_againstLiteral_62 post n) a0 a1 a2 a3 a4 h (fun b0 b1 b2 b3 b4 hb hlt => ih b0 b1 b2 b3 b4 hb (Nat.lt_of_lt_of_le hlt (Nat.le_of_lt_succ hm)))
  exact fun a0 a1 a2 a3 a4 h => ⟨_, key _ a0 a1 a2 a3 a4 h (Nat.lt_succ_self _)⟩
theorem lp_Mod_canCompare_6 {post : Int32 → St → Prop} (I : Int32 → Int32 → Int32 → Int32 → Int32 → St → Prop) (m : Int32 → Int32 → Int32 → Int32 → Int32 → St → Nat)
    (step : ∀ (R : Int32 → Int32 → Int32 → Int32 → Int32 → St → Prop) (a0 : Int32) (a1 : Int32) (a2 : Int32) (a3 : Int32) (a4 : Int32) (a5 : St), I a0 a1 a2 a3 a4 a5 → (∀ (b0 : Int32) (b1 : Int32) (b2 : Int32) (b3 : Int32) (b4 : Int32) (b5 : St), I b0 b1 b2 b3 b4 b5 → m b0 b1 b2 b3 b4 b5 < m a0 a1 a2 a3 a4 a5 → R b0 b1 b2 b3 b4 b5) → j_Mod_canCompare_6 post R a0 a1 a2 a3 a4 a5) :
    ∀ (a0 : Int32) (a1 : Int32) (a2 : Int32) (a3 : Int32) (a4 : Int32) (a5 : St), I a0 a1 a2 a3 a4 a5 → ∃ n : Nat, wl_Mod_canCompare_6 post n a0 a1 a2 a3 a4 a5 := by
  have key : ∀ (n : Nat) (a0 : Int32) (a1 : Int32) (a2 : Int32) (a3 : Int32) (a4 : Int32) (a5 : St), I a0 a1 a2 a3 a4 a5 → m a0 a1 a2 a3 a4 a5 < n → wl_Mod_canCompare_6 post n a0 a1 a2 a3 a4 a5 := by
    intro n
    induction n with
    | zero => intro a0 a1 a2 a3 a4 a5 _ h; exact absurd h (Nat.not_lt_zero _)
    | succ n ih => intro a0 a1 a2 a3 a4 a5 h hm; exact step (wl_Mod_canCompare_6 post n) a0 a1 a2 a3 a4 a5 h (fun b0 b1 b2 b3 b4 b5 hb hlt => ih b0 b1 b2 b3 b4 b5 hb (Nat.lt_of_lt_of_le hlt (Nat.le_of_lt_succ hm)))
  exact fun a0 a1 a2 a3 a4 a5 h => ⟨_, key _ a0 a1 a2 a3 a4 a5 h (Nat.lt_succ_self _)⟩
theorem lp_Mod_mayBe_46 {post : Int32 → St → Prop} (I : Int32 → Int32 → Int32 → Int32 → St → Prop) (m : Int32 → Int32 → Int32 → Int32 → St → Nat)
    (step : ∀ (R : Int32 → Int32 → Int32 → Int32 → St → Prop) (a0 : Int32) (a1 : Int32) (a2 : Int32) (a3 : Int32) (a4 : St), I a0 a1 a2 a3 a4 → (∀ (b0 : Int32) (b1 : Int32) (b2 : Int32) (b3 : Int32) (b4 : St), I b0 b1 b2 b3 b4 → m b0 b1 b2 b3 b4 < m a0 a1 a2 a3 a4 → R b0 b1 b2 b3 b4) → j_Mod_mayBe_46 post R a0 a1 a2 a3 a4) :
    ∀ (a0 : Int32) (a1 : Int32) (a2 : Int32) (a3 : Int32) (a4 : St), I a0 a1 a2 a3 a4 → ∃ n : Nat, wl_Mod_mayBe_46 post n a0 a1 a2 a3 a4 := by
  have key : ∀ (n : Nat) (a0 : Int32) (a1 : Int32) (a2 : Int32) (a3 : Int32) (a4 : St), I a0 a1 a2 a3 a4 → m a0 a1 a2 a3 a4 < n → wl_Mod_mayBe_46 post n a0 a1 a2 a3 a4 := by
    intro n
    induction n with
    | zero => intro a0 a1 a2 a3 a4 _ h; exact absurd h (Nat.not_lt_zero _)
    | succ n ih => intro a0 a1 a2 a3 a4 h hm; exact step (wl_Mod_mayBe_46 post n) a0 a1 a2 a3 a4 h (fun b0 b1 b2 b3 b4 hb hlt => ih b0 b1 b2 b3 b4 hb (Nat.lt_of_lt_of_le hlt (Nat.le_of_lt_succ hm)))
  exact fun a0 a1 a2 a3 a4 h => ⟨_, key _ a0 a1 a2 a3 a4 h (Nat.lt_succ_self _)⟩
theorem lp_Mod_canBeOther_93 {post : Int32 → St → Prop} {rec80 : Int32 → Int32 → Int32 → Int32 → Int32 → Int32 → St → Prop} (I : Int32 → Int32 → Int32 → Int32 → Int32 → Int32 → Int32 → Int32 → St → Prop) (m : Int32 → Int32 → Int32 → Int32 → Int32 → Int32 → Int32 → Int32 → St → Nat)
    (step : ∀ (R : Int32 → Int32 → Int32 → Int32 → Int32 → Int32 → Int32 → Int32 → St → Prop) (a0 : Int32) (a1 : Int32) (a2 : Int32) (a3 : Int32) (a4 : Int32) (a5 : Int32) (a6 : Int32) (a7 : Int32) (a8 : St), I a0 a1 a2 a3 a4 a5 a6 a7 a8 → (∀ (b0 : Int32) (b1 : Int32) (b2 : Int32) (b3 : Int32) (b4 : Int32) (b5 : Int32) (b6 : Int32) (b7 : Int32) (b8 : St), I b0 b1 b2 b3 b4 b5 b6 b7 b8 → m b0 b1 b2 b3 b4 b5 b6 b7 b8 < m a0 a1 a2 a3 a4 a5 a6 a7 a8 → R b0 b1 b2 b3 b4 b5 b6 b7 b8) → j_Mod_canBeOther_93 post rec80 R a0 a1 a2 a3 a4 a5 a6 a7 a8) :
    ∀ (a0 : Int32) (a1 : Int32) (a2 : Int32) (a3 : Int32) (a4 : Int32) (a5 : Int32) (a6 : Int32) (a7 : Int32) (a8 : St), I a0 a1 a2 a3 a4 a5 a6 a7 a8 → ∃ n : Nat, wl_Mod_canBeOther_93 post rec80 n a0 a1 a2 a3 a4 a5 a6 a7 a8 := by
  have key : ∀ (n : Nat) (a0 : Int32) (a1 : Int32) (a2 : Int32) (a3 : Int32) (a4 : Int32) (a5 : Int32) (a6 : Int32) (a7 : Int32) (a8 : St), I a0 a1 a2 a3 a4 a5 a6 a7 a8 → m a0 a1 a2 a3 a4 a5 a6 a7 a8 < n → wl_Mod_canBeOther_93 post rec80 n a0 a1 a2 a3 a4 a5 a6 a7 a8 := by
    intro n
    induction n with
    | zero => intro a0 a1 a2 a3 a4 a5 a6 a7 a8 _ h; exact absurd h (Nat.not_lt_zero _)
    | succ n ih => intro a0 a1 a2 a3 a4 a5 a6 a7 a8 h hm; exact step (wl_Mod_canBeOther_93 post rec80 n) a0 a1 a2 a3 a4 a5 a6 a7 a8 h (fun b0 b1 b2 b3 b4 b5 b6 b7 b8 hb hlt => ih b0 b1 b2 b3 b4 b5 b6 b7 b8 hb (Nat.lt_of_lt_of_le hlt (Nat.le_of_lt_succ hm)))
  exact fun a0 a1 a2 a3 a4 a5 a6 a7 a8 h => ⟨_, key _ a0 a1 a2 a3 a4 a5 a6 a7 a8 h (Nat.lt_succ_self _)⟩
theorem lp_Mod_canBeOther_80 {post : Int32 → St → Prop} (I : Int32 → Int32 → Int32 → Int32 → Int32 → Int32 → St → Prop) (m : Int32 → Int32 → Int32 → Int32 → Int32 → Int32 → St → Nat)
    (step : ∀ (R : Int32 → Int32 → Int32 → Int32 → Int32 → Int32 → St → Prop) (a0 : Int32) (a1 : Int32) (a2 : Int32) (a3 : Int32) (a4 : Int32) (a5 : Int32) (a6 : St), I a0 a1 a2 a3 a4 a5 a6 → (∀ (b0 : Int32) (b1 : Int32) (b2 : Int32) (b3 : Int32) (b4 : Int32) (b5 : Int32) (b6 : St), I b0 b1 b2 b3 b4 b5 b6 → m b0 b1 b2 b3 b4 b5 b6 < m a0 a1 a2 a3 a4 a5 a6 → R b0 b1 b2 b3 b4 b5 b6) → j_Mod_canBeOther_80 post R a0 a1 a2 a3 a4 a5 a6) :
    ∀ (a0 : Int32) (a1 : Int32) (a2 : Int32) (a3 : Int32) (a4 : Int32) (a5 : Int32) (a6 : St), I a0 a1 a2 a3 a4 a5 a6 → ∃ n : Nat, wl_Mod_canBeOther_80 post n a0 a1 a2 a3 a4 a5 a6 := by
  have key : ∀ (n : Nat) (a0 : Int32) (a1 : Int32) (a2 : Int32) (a3 : Int32) (a4 : Int32) (a5 : Int32) (a6 : St), I a0 a1 a2 a3 a4 a5 a6 → m a0 a1 a2 a3 a4 a5 a6 < n → wl_Mod_canBeOther_80 post n a0 a1 a2 a3 a4 a5 a6 := by
    intro n
    induction n with
    | zero => intro a0 a1 a2 a3 a4 a5 a6 _ h; exact absurd h (Nat.not_lt_zero _)
    | succ n ih => intro a0 a1 a2 a3 a4 a5 a6 h hm; exact step (wl_Mod_canBeOther_80 post n) a0 a1 a2 a3 a4 a5 a6 h (fun b0 b1 b2 b3 b4 b5 b6 hb hlt => ih b0 b1 b2 b3 b4 b5 b6 hb (Nat.lt_of_lt_of_le hlt (Nat.le_of_lt_succ hm)))
  exact fun a0 a1 a2 a3 a4 a5 a6 h => ⟨_, key _ a0 a1 a2 a3 a4 a5 a6 h (Nat.lt_succ_self _)⟩
theorem lp_Mod_canOf_311 {post : Int32 → St → Prop} (I : Int32 → Int32 → Int32 → Int32 → Int32 → Int32 → Int32 → Int32 → Int32 → St → Prop) (m : Int32 → Int32 → Int32 → Int32 → Int32 → Int32 → Int32 → Int32 → Int32 → St → Nat)
    (step : ∀ (R : Int32 → Int32 → Int32 → Int32 → Int32 → Int32 → Int32 → Int32 → Int32 → St → Prop) (a0 : Int32) (a1 : Int32) (a2 : Int32) (a3 : Int32) (a4 : Int32) (a5 : Int32) (a6 : Int32) (a7 : Int32) (a8 : Int32) (a9 : St), I a0 a1 a2 a3 a4 a5 a6 a7 a8 a9 → (∀ (b0 : Int32) (b1 : Int32) (b2 : Int32) (b3 : Int32) (b4 : Int32) (b5 : Int32) (b6 : Int32) (b7 : Int32) (b8 : Int32) (b9 : St), I b0 b1 b2 b3 b4 b5 b6 b7 b8 b9 → m b0 b1 b2 b3 b4 b5 b6 b7 b8 b9 < m a0 a1 a2 a3 a4 a5 a6 a7 a8 a9 → R b0 b1 b2 b3 b4 b5 b6 b7 b8 b9) → j_Mod_canOf_311 post R a0 a1 a2 a3 a4 a5 a6 a7 a8 a9) :
    ∀ (a0 : Int32) (a1 : Int32) (a2 : Int32) (a3 : Int32) (a4 : Int32) (a5 : Int32) (a6 : Int32) (a7 : Int32) (a8 : Int32) (a9 : St), I a0 a1 a2 a3 a4 a5 a6 a7 a8 a9 → ∃ n : Nat, wl_Mod_canOf_311 post n a0 a1 a2 a3 a4 a5 a6 a7 a8 a9 := by
  have key : ∀ (n : Nat) (a0 : Int32) (a1 : Int32) (a2 : Int32) (a3 : Int32) (a4 : Int32) (a5 : Int32) (a6 : Int32) (a7 : Int32) (a8 : Int32) (a9 : St), I a0 a1 a2 a3 a4 a5 a6 a7 a8 a9 → m a0 a1 a2 a3 a4 a5 a6 a7 a8 a9 < n → wl_Mod_canOf_311 post n a0 a1 a2 a3 a4 a5 a6 a7 a8 a9 := by
    intro n
    induction n with
    | zero => intro a0 a1 a2 a3 a4 a5 a6 a7 a8 a9 _ h; exact absurd h (Nat.not_lt_zero _)
    | succ n ih => intro a0 a1 a2 a3 a4 a5 a6 a7 a8 a9 h hm; exact step (wl_Mod_canOf_311 post n) a0 a1 a2 a3 a4 a5 a6 a7 a8 a9 h (fun b0 b1 b2 b3 b4 b5 b6 b7 b8 b9 hb hlt => ih b0 b1 b2 b3 b4 b5 b6 b7 b8 b9 hb (Nat.lt_of_lt_of_le hlt (Nat.le_of_lt_succ hm)))
  exact fun a0 a1 a2 a3 a4 a5 a6 a7 a8 a9 h => ⟨_, key _ a0 a1 a2 a3 a4 a5 a6 a7 a8 a9 h (Nat.lt_succ_self _)⟩
theorem lp_Mod_truthOf_190 {post : Int32 → St → Prop} (I : Int32 → Int32 → Int32 → Int32 → Int32 → Int32 → Int32 → Int32 → St → Prop) (m : Int32 → Int32 → Int32 → Int32 → Int32 → Int32 → Int32 → Int32 → St → Nat)
    (step : ∀ (R : Int32 → Int32 → Int32 → Int32 → Int32 → Int32 → Int32 → Int32 → St → Prop) (a0 : Int32) (a1 : Int32) (a2 : Int32) (a3 : Int32) (a4 : Int32) (a5 : Int32) (a6 : Int32) (a7 : Int32) (a8 : St), I a0 a1 a2 a3 a4 a5 a6 a7 a8 → (∀ (b0 : Int32) (b1 : Int32) (b2 : Int32) (b3 : Int32) (b4 : Int32) (b5 : Int32) (b6 : Int32) (b7 : Int32) (b8 : St), I b0 b1 b2 b3 b4 b5 b6 b7 b8 → m b0 b1 b2 b3 b4 b5 b6 b7 b8 < m a0 a1 a2 a3 a4 a5 a6 a7 a8 → R b0 b1 b2 b3 b4 b5 b6 b7 b8) → j_Mod_truthOf_190 post R a0 a1 a2 a3 a4 a5 a6 a7 a8) :
    ∀ (a0 : Int32) (a1 : Int32) (a2 : Int32) (a3 : Int32) (a4 : Int32) (a5 : Int32) (a6 : Int32) (a7 : Int32) (a8 : St), I a0 a1 a2 a3 a4 a5 a6 a7 a8 → ∃ n : Nat, wl_Mod_truthOf_190 post n a0 a1 a2 a3 a4 a5 a6 a7 a8 := by
  have key : ∀ (n : Nat) (a0 : Int32) (a1 : Int32) (a2 : Int32) (a3 : Int32) (a4 : Int32) (a5 : Int32) (a6 : Int32) (a7 : Int32) (a8 : St), I a0 a1 a2 a3 a4 a5 a6 a7 a8 → m a0 a1 a2 a3 a4 a5 a6 a7 a8 < n → wl_Mod_truthOf_190 post n a0 a1 a2 a3 a4 a5 a6 a7 a8 := by
    intro n
    induction n with
    | zero => intro a0 a1 a2 a3 a4 a5 a6 a7 a8 _ h; exact absurd h (Nat.not_lt_zero _)
    | succ n ih => intro a0 a1 a2 a3 a4 a5 a6 a7 a8 h hm; exact step (wl_Mod_truthOf_190 post n) a0 a1 a2 a3 a4 a5 a6 a7 a8 h (fun b0 b1 b2 b3 b4 b5 b6 b7 b8 hb hlt => ih b0 b1 b2 b3 b4 b5 b6 b7 b8 hb (Nat.lt_of_lt_of_le hlt (Nat.le_of_lt_succ hm)))
  exact fun a0 a1 a2 a3 a4 a5 a6 a7 a8 h => ⟨_, key _ a0 a1 a2 a3 a4 a5 a6 a7 a8 h (Nat.lt_succ_self _)⟩
theorem lp_Mod_condition_4 {post : Int32 → St → Prop} (I : Int32 → Int32 → Int32 → St → Prop) (m : Int32 → Int32 → Int32 → St → Nat)
    (step : ∀ (R : Int32 → Int32 → Int32 → St → Prop) (a0 : Int32) (a1 : Int32) (a2 : Int32) (a3 : St), I a0 a1 a2 a3 → (∀ (b0 : Int32) (b1 : Int32) (b2 : Int32) (b3 : St), I b0 b1 b2 b3 → m b0 b1 b2 b3 < m a0 a1 a2 a3 → R b0 b1 b2 b3) → j_Mod_condition_4 post R a0 a1 a2 a3) :
    ∀ (a0 : Int32) (a1 : Int32) (a2 : Int32) (a3 : St), I a0 a1 a2 a3 → ∃ n : Nat, wl_Mod_condition_4 post n a0 a1 a2 a3 := by
  have key : ∀ (n : Nat) (a0 : Int32) (a1 : Int32) (a2 : Int32) (a3 : St), I a0 a1 a2 a3 → m a0 a1 a2 a3 < n → wl_Mod_condition_4 post n a0 a1 a2 a3 := by
    intro n
    induction n with
    | zero => intro a0 a1 a2 a3 _ h; exact absurd h (Nat.not_lt_zero _)
    | succ n ih => intro a0 a1 a2 a3 h hm; exact step (wl_Mod_condition_4 post n) a0 a1 a2 a3 h (fun b0 b1 b2 b3 hb hlt => ih b0 b1 b2 b3 hb (Nat.lt_of_lt_of_le hlt (Nat.le_of_lt_succ hm)))
  exact fun a0 a1 a2 a3 h => ⟨_, key _ a0 a1 a2 a3 h (Nat.lt_succ_self _)⟩
theorem lp_Mod_tellPage_2 {post : Int32 → St → Prop} (I : Int32 → Int32 → Int32 → St → Prop) (m : Int32 → Int32 → Int32 → St → Nat)
    (step : ∀ (R : Int32 → Int32 → Int32 → St → Prop) (a0 : Int32) (a1 : Int32) (a2 : Int32) (a3 : St), I a0 a1 a2 a3 → (∀ (b0 : Int32) (b1 : Int32) (b2 : Int32) (b3 : St), I b0 b1 b2 b3 → m b0 b1 b2 b3 < m a0 a1 a2 a3 → R b0 b1 b2 b3) → j_Mod_tellPage_2 post R a0 a1 a2 a3) :
    ∀ (a0 : Int32) (a1 : Int32) (a2 : Int32) (a3 : St), I a0 a1 a2 a3 → ∃ n : Nat, wl_Mod_tellPage_2 post n a0 a1 a2 a3 := by
  have key : ∀ (n : Nat) (a0 : Int32) (a1 : Int32) (a2 : Int32) (a3 : St), I a0 a1 a2 a3 → m a0 a1 a2 a3 < n → wl_Mod_tellPage_2 post n a0 a1 a2 a3 := by
    intro n
    induction n with
    | zero => intro a0 a1 a2 a3 _ h; exact absurd h (Nat.not_lt_zero _)
    | succ n ih => intro a0 a1 a2 a3 h hm; exact step (wl_Mod_tellPage_2 post n) a0 a1 a2 a3 h (fun b0 b1 b2 b3 hb hlt => ih b0 b1 b2 b3 hb (Nat.lt_of_lt_of_le hlt (Nat.le_of_lt_succ hm)))
  exact fun a0 a1 a2 a3 h => ⟨_, key _ a0 a1 a2 a3 h (Nat.lt_succ_self _)⟩
theorem lp_Mod_lookAt_2 {post : St → Prop} (I : Int32 → Int32 → Int32 → St → Prop) (m : Int32 → Int32 → Int32 → St → Nat)
    (step : ∀ (R : Int32 → Int32 → Int32 → St → Prop) (a0 : Int32) (a1 : Int32) (a2 : Int32) (a3 : St), I a0 a1 a2 a3 → (∀ (b0 : Int32) (b1 : Int32) (b2 : Int32) (b3 : St), I b0 b1 b2 b3 → m b0 b1 b2 b3 < m a0 a1 a2 a3 → R b0 b1 b2 b3) → j_Mod_lookAt_2 post R a0 a1 a2 a3) :
    ∀ (a0 : Int32) (a1 : Int32) (a2 : Int32) (a3 : St), I a0 a1 a2 a3 → ∃ n : Nat, wl_Mod_lookAt_2 post n a0 a1 a2 a3 := by
  have key : ∀ (n : Nat) (a0 : Int32) (a1 : Int32) (a2 : Int32) (a3 : St), I a0 a1 a2 a3 → m a0 a1 a2 a3 < n → wl_Mod_lookAt_2 post n a0 a1 a2 a3 := by
    intro n
    induction n with
    | zero => intro a0 a1 a2 a3 _ h; exact absurd h (Nat.not_lt_zero _)
    | succ n ih => intro a0 a1 a2 a3 h hm; exact step (wl_Mod_lookAt_2 post n) a0 a1 a2 a3 h (fun b0 b1 b2 b3 hb hlt => ih b0 b1 b2 b3 hb (Nat.lt_of_lt_of_le hlt (Nat.le_of_lt_succ hm)))
  exact fun a0 a1 a2 a3 h => ⟨_, key _ a0 a1 a2 a3 h (Nat.lt_succ_self _)⟩
theorem lp_Mod_lookAtGroup_13 {post : St → Prop} {rec2 : Int32 → Int32 → Int32 → St → Prop} (I : Int32 → Int32 → Int32 → Int32 → Int32 → St → Prop) (m : Int32 → Int32 → Int32 → Int32 → Int32 → St → Nat)
    (step : ∀ (R : Int32 → Int32 → Int32 → Int32 → Int32 → St → Prop) (a0 : Int32) (a1 : Int32) (a2 : Int32) (a3 : Int32) (a4 : Int32) (a5 : St), I a0 a1 a2 a3 a4 a5 → (∀ (b0 : Int32) (b1 : Int32) (b2 : Int32) (b3 : Int32) (b4 : Int32) (b5 : St), I b0 b1 b2 b3 b4 b5 → m b0 b1 b2 b3 b4 b5 < m a0 a1 a2 a3 a4 a5 → R b0 b1 b2 b3 b4 b5) → j_Mod_lookAtGroup_13 post rec2 R a0 a1 a2 a3 a4 a5) :
    ∀ (a0 : Int32) (a1 : Int32) (a2 : Int32) (a3 : Int32) (a4 : Int32) (a5 : St), I a0 a1 a2 a3 a4 a5 → ∃ n : Nat, wl_Mod_lookAtGroup_13 post rec2 n a0 a1 a2 a3 a4 a5 := by
  have key : ∀ (n : Nat) (a0 : Int32) (a1 : Int32) (a2 : Int32) (a3 : Int32) (a4 : Int32) (a5 : St), I a0 a1 a2 a3 a4 a5 → m a0 a1 a2 a3 a4 a5 < n → wl_Mod_lookAtGroup_13 post rec2 n a0 a1 a2 a3 a4 a5 := by
    intro n
    induction n with
    | zero => intro a0 a1 a2 a3 a4 a5 _ h; exact absurd h (Nat.not_lt_zero _)
    | succ n ih => intro a0 a1 a2 a3 a4 a5 h hm; exact step (wl_Mod_lookAtGroup_13 post rec2 n) a0 a1 a2 a3 a4 a5 h (fun b0 b1 b2 b3 b4 b5 hb hlt => ih b0 b1 b2 b3 b4 b5 hb (Nat.lt_of_lt_of_le hlt (Nat.le_of_lt_succ hm)))
  exact fun a0 a1 a2 a3 a4 a5 h => ⟨_, key _ a0 a1 a2 a3 a4 a5 h (Nat.lt_succ_self _)⟩
theorem lp_Mod_lookAtGroup_2 {post : St → Prop} (I : Int32 → Int32 → Int32 → St → Prop) (m : Int32 → Int32 → Int32 → St → Nat)
    (step : ∀ (R : Int32 → Int32 → Int32 → St → Prop) (a0 : Int32) (a1 : Int32) (a2 : Int32) (a3 : St), I a0 a1 a2 a3 → (∀ (b0 : Int32) (b1 : Int32) (b2 : Int32) (b3 : St), I b0 b1 b2 b3 → m b0 b1 b2 b3 < m a0 a1 a2 a3 → R b0 b1 b2 b3) → j_Mod_lookAtGroup_2 post R a0 a1 a2 a3) :
    ∀ (a0 : Int32) (a1 : Int32) (a2 : Int32) (a3 : St), I a0 a1 a2 a3 → ∃ n : Nat, wl_Mod_lookAtGroup_2 post n a0 a1 a2 a3 := by
  have key : ∀ (n : Nat) (a0 : Int32) (a1 : Int32) (a2 : Int32) (a3 : St), I a0 a1 a2 a3 → m a0 a1 a2 a3 < n → wl_Mod_lookAtGroup_2 post n a0 a1 a2 a3 := by
    intro n
    induction n with
    | zero => intro a0 a1 a2 a3 _ h; exact absurd h (Nat.not_lt_zero _)
    | succ n ih => intro a0 a1 a2 a3 h hm; exact step (wl_Mod_lookAtGroup_2 post n) a0 a1 a2 a3 h (fun b0 b1 b2 b3 hb hlt => ih b0 b1 b2 b3 hb (Nat.lt_of_lt_of_le hlt (Nat.le_of_lt_succ hm)))
  exact fun a0 a1 a2 a3 h => ⟨_, key _ a0 a1 a2 a3 h (Nat.lt_succ_self _)⟩
theorem lp_Mod_lookAtAll_151 {post : St → Prop} {rec19 : Int32 → Int32 → St → Prop} (I : Int32 → Int32 → Int32 → Int32 → Int32 → St → Prop) (m : Int32 → Int32 → Int32 → Int32 → Int32 → St → Nat)
    (step : ∀ (R : Int32 → Int32 → Int32 → Int32 → Int32 → St → Prop) (a0 : Int32) (a1 : Int32) (a2 : Int32) (a3 : Int32) (a4 : Int32) (a5 : St), I a0 a1 a2 a3 a4 a5 → (∀ (b0 : Int32) (b1 : Int32) (b2 : Int32) (b3 : Int32) (b4 : Int32) (b5 : St), I b0 b1 b2 b3 b4 b5 → m b0 b1 b2 b3 b4 b5 < m a0 a1 a2 a3 a4 a5 → R b0 b1 b2 b3 b4 b5) → j_Mod_lookAtAll_151 post rec19 R a0 a1 a2 a3 a4 a5) :
    ∀ (a0 : Int32) (a1 : Int32) (a2 : Int32) (a3 : Int32) (a4 : Int32) (a5 : St), I a0 a1 a2 a3 a4 a5 → ∃ n : Nat, wl_Mod_lookAtAll_151 post rec19 n a0 a1 a2 a3 a4 a5 := by
  have key : ∀ (n : Nat) (a0 : Int32) (a1 : Int32) (a2 : Int32) (a3 : Int32) (a4 : Int32) (a5 : St), I a0 a1 a2 a3 a4 a5 → m a0 a1 a2 a3 a4 a5 < n → wl_Mod_lookAtAll_151 post rec19 n a0 a1 a2 a3 a4 a5 := by
    intro n
    induction n with
    | zero => intro a0 a1 a2 a3 a4 a5 _ h; exact absurd h (Nat.not_lt_zero _)
    | succ n ih => intro a0 a1 a2 a3 a4 a5 h hm; exact step (wl_Mod_lookAtAll_151 post rec19 n) a0 a1 a2 a3 a4 a5 h (fun b0 b1 b2 b3 b4 b5 hb hlt => ih b0 b1 b2 b3 b4 b5 hb (Nat.lt_of_lt_of_le hlt (Nat.le_of_lt_succ hm)))
  exact fun a0 a1 a2 a3 a4 a5 h => ⟨_, key _ a0 a1 a2 a3 a4 a5 h (Nat.lt_succ_self _)⟩
theorem lp_Mod_lookAtAll_58 {post : St → Prop} {rec19 : Int32 → Int32 → St → Prop} (I : Int32 → Int32 → Int32 → Int32 → Int32 → St → Prop) (m : Int32 → Int32 → Int32 → Int32 → Int32 → St → Nat)
    (step : ∀ (R : Int32 → Int32 → Int32 → Int32 → Int32 → St → Prop) (a0 : Int32) (a1 : Int32) (a2 : Int32) (a3 : Int32) (a4 : Int32) (a5 : St), I a0 a1 a2 a3 a4 a5 → (∀ (b0 : Int32) (b1 : Int32) (b2 : Int32) (b3 : Int32) (b4 : Int32) (b5 : St), I b0 b1 b2 b3 b4 b5 → m b0 b1 b2 b3 b4 b5 < m a0 a1 a2 a3 a4 a5 → R b0 b1 b2 b3 b4 b5) → j_Mod_lookAtAll_58 post rec19 R a0 a1 a2 a3 a4 a5) :
    ∀ (a0 : Int32) (a1 : Int32) (a2 : Int32) (a3 : Int32) (a4 : Int32) (a5 : St), I a0 a1 a2 a3 a4 a5 → ∃ n : Nat, wl_Mod_lookAtAll_58 post rec19 n a0 a1 a2 a3 a4 a5 := by
  have key : ∀ (n : Nat) (a0 : Int32) (a1 : Int32) (a2 : Int32) (a3 : Int32) (a4 : Int32) (a5 : St), I a0 a1 a2 a3 a4 a5 → m a0 a1 a2 a3 a4 a5 < n → wl_Mod_lookAtAll_58 post rec19 n a0 a1 a2 a3 a4 a5 := by
    intro n
    induction n with
    | zero => intro a0 a1 a2 a3 a4 a5 _ h; exact absurd h (Nat.not_lt_zero _)
    | succ n ih => intro a0 a1 a2 a3 a4 a5 h hm; exact step (wl_Mod_lookAtAll_58 post rec19 n) a0 a1 a2 a3 a4 a5 h (fun b0 b1 b2 b3 b4 b5 hb hlt => ih b0 b1 b2 b3 b4 b5 hb (Nat.lt_of_lt_of_le hlt (Nat.le_of_lt_succ hm)))
  exact fun a0 a1 a2 a3 a4 a5 h => ⟨_, key _ a0 a1 a2 a3 a4 a5 h (Nat.lt_succ_self _)⟩
theorem lp_Mod_lookAtAll_19 {post : St → Prop} (I : Int32 → Int32 → St → Prop) (m : Int32 → Int32 → St → Nat)
    (step : ∀ (R : Int32 → Int32 → St → Prop) (a0 : Int32) (a1 : Int32) (a2 : St), I a0 a1 a2 → (∀ (b0 : Int32) (b1 : Int32) (b2 : St), I b0 b1 b2 → m b0 b1 b2 < m a0 a1 a2 → R b0 b1 b2) → j_Mod_lookAtAll_19 post R a0 a1 a2) :
    ∀ (a0 : Int32) (a1 : Int32) (a2 : St), I a0 a1 a2 → ∃ n : Nat, wl_Mod_lookAtAll_19 post n a0 a1 a2 := by
  have key : ∀ (n : Nat) (a0 : Int32) (a1 : Int32) (a2 : St), I a0 a1 a2 → m a0 a1 a2 < n → wl_Mod_lookAtAll_19 post n a0 a1 a2 := by
    intro n
    induction n with
    | zero => intro a0 a1 a2 _ h; exact absurd h (Nat.not_lt_zero _)
    | succ n ih => intro a0 a1 a2 h hm; exact step (wl_Mod_lookAtAll_19 post n) a0 a1 a2 h (fun b0 b1 b2 hb hlt => ih b0 b1 b2 hb (Nat.lt_of_lt_of_le hlt (Nat.le_of_lt_succ hm)))
  exact fun a0 a1 a2 h => ⟨_, key _ a0 a1 a2 h (Nat.lt_succ_self _)⟩
theorem lp_Mod_newGroup_22 {post : St → Prop} (I : Int32 → Int32 → St → Prop) (m : Int32 → Int32 → St → Nat)
    (step : ∀ (R : Int32 → Int32 → St → Prop) (a0 : Int32) (a1 : Int32) (a2 : St), I a0 a1 a2 → (∀ (b0 : Int32) (b1 : Int32) (b2 : St), I b0 b1 b2 → m b0 b1 b2 < m a0 a1 a2 → R b0 b1 b2) → j_Mod_newGroup_22 post R a0 a1 a2) :
    ∀ (a0 : Int32) (a1 : Int32) (a2 : St), I a0 a1 a2 → ∃ n : Nat, wl_Mod_newGroup_22 post n a0 a1 a2 := by
  have key : ∀ (n : Nat) (a0 : Int32) (a1 : Int32) (a2 : St), I a0 a1 a2 → m a0 a1 a2 < n → wl_Mod_newGroup_22 post n a0 a1 a2 := by
    intro n
    induction n with
    | zero => intro a0 a1 a2 _ h; exact absurd h (Nat.not_lt_zero _)
    | succ n ih => intro a0 a1 a2 h hm; exact step (wl_Mod_newGroup_22 post n) a0 a1 a2 h (fun b0 b1 b2 hb hlt => ih b0 b1 b2 hb (Nat.lt_of_lt_of_le hlt (Nat.le_of_lt_succ hm)))
  exact fun a0 a1 a2 h => ⟨_, key _ a0 a1 a2 h (Nat.lt_succ_self _)⟩
theorem lp_Mod_sameBy_5 {post : Int32 → St → Prop} (I : Int32 → Int32 → Int32 → Int32 → St → Prop) (m : Int32 → Int32 → Int32 → Int32 → St → Nat)
    (step : ∀ (R : Int32 → Int32 → Int32 → Int32 → St → Prop) (a0 : Int32) (a1 : Int32) (a2 : Int32) (a3 : Int32) (a4 : St), I a0 a1 a2 a3 a4 → (∀ (b0 : Int32) (b1 : Int32) (b2 : Int32) (b3 : Int32) (b4 : St), I b0 b1 b2 b3 b4 → m b0 b1 b2 b3 b4 < m a0 a1 a2 a3 a4 → R b0 b1 b2 b3 b4) → j_Mod_sameBy_5 post R a0 a1 a2 a3 a4) :
    ∀ (a0 : Int32) (a1 : Int32) (a2 : Int32) (a3 : Int32) (a4 : St), I a0 a1 a2 a3 a4 → ∃ n : Nat, wl_Mod_sameBy_5 post n a0 a1 a2 a3 a4 := by
  have key : ∀ (n : Nat) (a0 : Int32) (a1 : Int32) (a2 : Int32) (a3 : Int32) (a4 : St), I a0 a1 a2 a3 a4 → m a0 a1 a2 a3 a4 < n → wl_Mod_sameBy_5 post n a0 a1 a2 a3 a4 := by
    intro n
    induction n with
    | zero => intro a0 a1 a2 a3 a4 _ h; exact absurd h (Nat.not_lt_zero _)
    | succ n ih => intro a0 a1 a2 a3 a4 h hm; exact step (wl_Mod_sameBy_5 post n) a0 a1 a2 a3 a4 h (fun b0 b1 b2 b3 b4 hb hlt => ih b0 b1 b2 b3 b4 hb (Nat.lt_of_lt_of_le hlt (Nat.le_of_lt_succ hm)))
  exact fun a0 a1 a2 a3 a4 h => ⟨_, key _ a0 a1 a2 a3 a4 h (Nat.lt_succ_self _)⟩
theorem lp_Mod_collect_12 {post : St → Prop} (I : Int32 → Int32 → Int32 → St → Prop) (m : Int32 → Int32 → Int32 → St → Nat)
    (step : ∀ (R : Int32 → Int32 → Int32 → St → Prop) (a0 : Int32) (a1 : Int32) (a2 : Int32) (a3 : St), I a0 a1 a2 a3 → (∀ (b0 : Int32) (b1 : Int32) (b2 : Int32) (b3 : St), I b0 b1 b2 b3 → m b0 b1 b2 b3 < m a0 a1 a2 a3 → R b0 b1 b2 b3) → j_Mod_collect_12 post R a0 a1 a2 a3) :
    ∀ (a0 : Int32) (a1 : Int32) (a2 : Int32) (a3 : St), I a0 a1 a2 a3 → ∃ n : Nat, wl_Mod_collect_12 post n a0 a1 a2 a3 := by
  have key : ∀ (n : Nat) (a0 : Int32) (a1 : Int32) (a2 : Int32) (a3 : St), I a0 a1 a2 a3 → m a0 a1 a2 a3 < n → wl_Mod_collect_12 post n a0 a1 a2 a3 := by
    intro n
    induction n with
    | zero => intro a0 a1 a2 a3 _ h; exact absurd h (Nat.not_lt_zero _)
    | succ n ih => intro a0 a1 a2 a3 h hm; exact step (wl_Mod_collect_12 post n) a0 a1 a2 a3 h (fun b0 b1 b2 b3 hb hlt => ih b0 b1 b2 b3 hb (Nat.lt_of_lt_of_le hlt (Nat.le_of_lt_succ hm)))
  exact fun a0 a1 a2 a3 h => ⟨_, key _ a0 a1 a2 a3 h (Nat.lt_succ_self _)⟩
theorem lp_Mod_collectAll_48 {post : Int32 → St → Prop} {rec38 : Int32 → Int32 → St → Prop} (I : Int32 → Int32 → Int32 → St → Prop) (m : Int32 → Int32 → Int32 → St → Nat)
    (step : ∀ (R : Int32 → Int32 → Int32 → St → Prop) (a0 : Int32) (a1 : Int32) (a2 : Int32) (a3 : St), I a0 a1 a2 a3 → (∀ (b0 : Int32) (b1 : Int32) (b2 : Int32) (b3 : St), I b0 b1 b2 b3 → m b0 b1 b2 b3 < m a0 a1 a2 a3 → R b0 b1 b2 b3) → j_Mod_collectAll_48 post rec38 R a0 a1 a2 a3) :
    ∀ (a0 : Int32) (a1 : Int32) (a2 : Int32) (a3 : St), I a0 a1 a2 a3 → ∃ n : Nat, wl_Mod_collectAll_48 post rec38 n a0 a1 a2 a3 := by
  have key : ∀ (n : Nat) (a0 : Int32) (a1 : Int32) (a2 : Int32) (a3 : St), I a0 a1 a2 a3 → m a0 a1 a2 a3 < n → wl_Mod_collectAll_48 post rec38 n a0 a1 a2 a3 := by
    intro n
    induction n with
    | zero => intro a0 a1 a2 a3 _ h; exact absurd h (Nat.not_lt_zero _)
    | succ n ih => intro a0 a1 a2 a3 h hm; exact step (wl_Mod_collectAll_48 post rec38 n) a0 a1 a2 a3 h (fun b0 b1 b2 b3 hb hlt => ih b0 b1 b2 b3 hb (Nat.lt_of_lt_of_le hlt (Nat.le_of_lt_succ hm)))
  exact fun a0 a1 a2 a3 h => ⟨_, key _ a0 a1 a2 a3 h (Nat.lt_succ_self _)⟩
theorem lp_Mod_collectAll_38 {post : Int32 → St → Prop} (I : Int32 → Int32 → St → Prop) (m : Int32 → Int32 → St → Nat)
    (step : ∀ (R : Int32 → Int32 → St → Prop) (a0 : Int32) (a1 : Int32) (a2 : St), I a0 a1 a2 → (∀ (b0 : Int32) (b1 : Int32) (b2 : St), I b0 b1 b2 → m b0 b1 b2 < m a0 a1 a2 → R b0 b1 b2) → j_Mod_collectAll_38 post R a0 a1 a2) :
    ∀ (a0 : Int32) (a1 : Int32) (a2 : St), I a0 a1 a2 → ∃ n : Nat, wl_Mod_collectAll_38 post n a0 a1 a2 := by
  have key : ∀ (n : Nat) (a0 : Int32) (a1 : Int32) (a2 : St), I a0 a1 a2 → m a0 a1 a2 < n → wl_Mod_collectAll_38 post n a0 a1 a2 := by
    intro n
    induction n with
    | zero => intro a0 a1 a2 _ h; exact absurd h (Nat.not_lt_zero _)
    | succ n ih => intro a0 a1 a2 h hm; exact step (wl_Mod_collectAll_38 post n) a0 a1 a2 h (fun b0 b1 b2 hb hlt => ih b0 b1 b2 hb (Nat.lt_of_lt_of_le hlt (Nat.le_of_lt_succ hm)))
  exact fun a0 a1 a2 h => ⟨_, key _ a0 a1 a2 h (Nat.lt_succ_self _)⟩
theorem lp_Mod_run_157 {post : Int32 → St → Prop} (I : Int32 → St → Prop) (m : Int32 → St → Nat)
    (step : ∀ (R : Int32 → St → Prop) (a0 : Int32) (a1 : St), I a0 a1 → (∀ (b0 : Int32) (b1 : St), I b0 b1 → m b0 b1 < m a0 a1 → R b0 b1) → j_Mod_run_157 post R a0 a1) :
    ∀ (a0 : Int32) (a1 : St), I a0 a1 → ∃ n : Nat, wl_Mod_run_157 post n a0 a1 := by
  have key : ∀ (n : Nat) (a0 : Int32) (a1 : St), I a0 a1 → m a0 a1 < n → wl_Mod_run_157 post n a0 a1 := by
    intro n
    induction n with
    | zero => intro a0 a1 _ h; exact absurd h (Nat.not_lt_zero _)
    | succ n ih => intro a0 a1 h hm; exact step (wl_Mod_run_157 post n) a0 a1 h (fun b0 b1 hb hlt => ih b0 b1 hb (Nat.lt_of_lt_of_le hlt (Nat.le_of_lt_succ hm)))
  exact fun a0 a1 h => ⟨_, key _ a0 a1 h (Nat.lt_succ_self _)⟩
theorem lp_Mod_run_85 {post : Int32 → St → Prop} {rec48 : Int32 → St → Prop} (I : Int32 → Int32 → St → Prop) (m : Int32 → Int32 → St → Nat)
    (step : ∀ (R : Int32 → Int32 → St → Prop) (a0 : Int32) (a1 : Int32) (a2 : St), I a0 a1 a2 → (∀ (b0 : Int32) (b1 : Int32) (b2 : St), I b0 b1 b2 → m b0 b1 b2 < m a0 a1 a2 → R b0 b1 b2) → j_Mod_run_85 post rec48 R a0 a1 a2) :
    ∀ (a0 : Int32) (a1 : Int32) (a2 : St), I a0 a1 a2 → ∃ n : Nat, wl_Mod_run_85 post rec48 n a0 a1 a2 := by
  have key : ∀ (n : Nat) (a0 : Int32) (a1 : Int32) (a2 : St), I a0 a1 a2 → m a0 a1 a2 < n → wl_Mod_run_85 post rec48 n a0 a1 a2 := by
    intro n
    induction n with
    | zero => intro a0 a1 a2 _ h; exact absurd h (Nat.not_lt_zero _)
    | succ n ih => intro a0 a1 a2 h hm; exact step (wl_Mod_run_85 post rec48 n) a0 a1 a2 h (fun b0 b1 b2 hb hlt => ih b0 b1 b2 hb (Nat.lt_of_lt_of_le hlt (Nat.le_of_lt_succ hm)))
  exact fun a0 a1 a2 h => ⟨_, key _ a0 a1 a2 h (Nat.lt_succ_self _)⟩
theorem lp_Mod_run_48 {post : Int32 → St → Prop} (I : Int32 → St → Prop) (m : Int32 → St → Nat)
    (step : ∀ (R : Int32 → St → Prop) (a0 : Int32) (a1 : St), I a0 a1 → (∀ (b0 : Int32) (b1 : St), I b0 b1 → m b0 b1 < m a0 a1 → R b0 b1) → j_Mod_run_48 post R a0 a1) :
    ∀ (a0 : Int32) (a1 : St), I a0 a1 → ∃ n : Nat, wl_Mod_run_48 post n a0 a1 := by
  have key : ∀ (n : Nat) (a0 : Int32) (a1 : St), I a0 a1 → m a0 a1 < n → wl_Mod_run_48 post n a0 a1 := by
    intro n
    induction n with
    | zero => intro a0 a1 _ h; exact absurd h (Nat.not_lt_zero _)
    | succ n ih => intro a0 a1 h hm; exact step (wl_Mod_run_48 post n) a0 a1 h (fun b0 b1 hb hlt => ih b0 b1 hb (Nat.lt_of_lt_of_le hlt (Nat.le_of_lt_succ hm)))
  exact fun a0 a1 h => ⟨_, key _ a0 a1 h (Nat.lt_succ_self _)⟩
theorem lp_Mod_answer_41 {post : Int32 → St → Prop} {rec22 : Int32 → Int32 → St → Prop} (I : Int32 → Int32 → Int32 → St → Prop) (m : Int32 → Int32 → Int32 → St → Nat)
    (step : ∀ (R : Int32 → Int32 → Int32 → St → Prop) (a0 : Int32) (a1 : Int32) (a2 : Int32) (a3 : St), I a0 a1 a2 a3 → (∀ (b0 : Int32) (b1 : Int32) (b2 : Int32) (b3 : St), I b0 b1 b2 b3 → m b0 b1 b2 b3 < m a0 a1 a2 a3 → R b0 b1 b2 b3) → j_Mod_answer_41 post rec22 R a0 a1 a2 a3) :
    ∀ (a0 : Int32) (a1 : Int32) (a2 : Int32) (a3 : St), I a0 a1 a2 a3 → ∃ n : Nat, wl_Mod_answer_41 post rec22 n a0 a1 a2 a3 := by
  have key : ∀ (n : Nat) (a0 : Int32) (a1 : Int32) (a2 : Int32) (a3 : St), I a0 a1 a2 a3 → m a0 a1 a2 a3 < n → wl_Mod_answer_41 post rec22 n a0 a1 a2 a3 := by
    intro n
    induction n with
    | zero => intro a0 a1 a2 a3 _ h; exact absurd h (Nat.not_lt_zero _)
    | succ n ih => intro a0 a1 a2 a3 h hm; exact step (wl_Mod_answer_41 post rec22 n) a0 a1 a2 a3 h (fun b0 b1 b2 b3 hb hlt => ih b0 b1 b2 b3 hb (Nat.lt_of_lt_of_le hlt (Nat.le_of_lt_succ hm)))
  exact fun a0 a1 a2 a3 h => ⟨_, key _ a0 a1 a2 a3 h (Nat.lt_succ_self _)⟩
theorem lp_Mod_answer_22 {post : Int32 → St → Prop} (I : Int32 → Int32 → St → Prop) (m : Int32 → Int32 → St → Nat)
    (step : ∀ (R : Int32 → Int32 → St → Prop) (a0 : Int32) (a1 : Int32) (a2 : St), I a0 a1 a2 → (∀ (b0 : Int32) (b1 : Int32) (b2 : St), I b0 b1 b2 → m b0 b1 b2 < m a0 a1 a2 → R b0 b1 b2) → j_Mod_answer_22 post R a0 a1 a2) :
    ∀ (a0 : Int32) (a1 : Int32) (a2 : St), I a0 a1 a2 → ∃ n : Nat, wl_Mod_answer_22 post n a0 a1 a2 := by
  have key : ∀ (n : Nat) (a0 : Int32) (a1 : Int32) (a2 : St), I a0 a1 a2 → m a0 a1 a2 < n → wl_Mod_answer_22 post n a0 a1 a2 := by
    intro n
    induction n with
    | zero => intro a0 a1 a2 _ h; exact absurd h (Nat.not_lt_zero _)
    | succ n ih => intro a0 a1 a2 h hm; exact step (wl_Mod_answer_22 post n) a0 a1 a2 h (fun b0 b1 b2 hb hlt => ih b0 b1 b2 hb (Nat.lt_of_lt_of_le hlt (Nat.le_of_lt_succ hm)))
  exact fun a0 a1 a2 h => ⟨_, key _ a0 a1 a2 h (Nat.lt_succ_self _)⟩
