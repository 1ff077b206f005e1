/-! size, byteOf, poke -/
def byA (T : Nat → Nat) (n : Nat) (l1 : Int32) : Int32 := if 0 ≤ l1 ∧ l1 < nI n then nI (T l1.toNatClampNeg) else -1
def pkA (n : Nat) (l1 : Int32) : Int32 := if 0 ≤ l1 ∧ l1 < nI n then 1 else 0
section
variable {x : St} {T : Nat → Nat} {n : Nat} {l1 l2 : Int32}
theorem s_size {post : Int32 → St → Prop} (h65 : fI x 0 65 = nI n) (p : post (nI n) (setI x 0 0 0)) : wp_Mod_size post x := by
  unfold wp_Mod_size
  refine nm_e ?_
  rw [show fI (setI x 0 0 0) 0 65 = fI x 0 65 from gI_ne (by decide), h65]
  exact p
theorem k_sizeV {post : Int32 → St → Prop} {fs : Nat} (h2 : fR x 0 2 = some fs) (hc : fI x fs 1 = nI n) (p : post (nI n) x) : wp_V_size post 0 x := ⟨fs, h2, by rw [hc]; exact p⟩
theorem s_byteOf {post : Int32 → St → Prop} (hL : LM x) (hn : n ≤ 40000) (h65 : fI x 0 65 = nI n) (hT : ∀ i, i < n → fA x 41 i = nI (T i)) (p : post (byA T n l1) (setI x 0 0 0)) : wp_Mod_byteOf post l1 x := by
  have l41 : fN (setI x 0 0 0) 41 = 40000 := hL 41
  have no : ¬ (0 ≤ l1 ∧ l1 < nI n) → j_Mod_byteOf_17 post l1 (setI x 0 0 0) := fun z => by
    unfold byA at p
    rw [if_neg z] at p
    exact p
  unfold wp_Mod_byteOf
  refine nm_e ?_
  rw [show fI (setI x 0 0 0) 0 65 = fI x 0 65 from gI_ne (by decide), h65, l41]
  by_cases c1 : l1 < 0
  · exact br_t c1 (no (fun z => absurd c1 (Int32.not_lt.mpr z.1)))
  refine br_f c1 ?_
  by_cases c2 : l1 < nI n
  rotate_left
  · exact br_f c2 (no (fun z => c2 z.2))
  unfold byA at p
  rw [if_pos ⟨Int32.not_lt.mp c1, c2⟩] at p
  obtain ⟨k, rfl, hk⟩ := nn_is c1 c2 (by omega)
  refine br_t c2 ⟨vp_in_nI (by omega) (by decide), ?_⟩
  rw [nI_clamp (by omega)] at p
  rw [show rA (setI x 0 0 0) 41 (nI k) = nI (T k) from by rw [rA_nI (by omega)]; exact hT k hk]
  exact p
theorem k_byteOf {post : Int32 → St → Prop} {fs q : Nat} (hn : n ≤ 40000) (h2 : fR x 0 2 = some fs) (hr : fR x fs 0 = some q) (hc : fI x fs 1 = nI n) (hqn : n ≤ fN x q) (hq31 : fN x q < 2 ^ 31) (hT : ∀ i, T i < 256) (hb : ∀ i, i < n → fA x q i = (nI (T i)).toInt8.toInt32) (p : post (byA T n l1) x) : wp_V_byteOf post 0 l1 x := by
  have no : ¬ (0 ≤ l1 ∧ l1 < nI n) → j_V_byteOf_15 post 0 l1 x := fun z => by
    unfold byA at p
    rw [if_neg z] at p
    exact p
  unfold wp_V_byteOf
  by_cases c1 : l1 < 0
  · exact br_t c1 (no (fun z => absurd c1 (Int32.not_lt.mpr z.1)))
  refine br_f c1 ⟨fs, h2, ?_⟩
  rw [hc]
  by_cases c2 : l1 < nI n
  rotate_left
  · exact br_f c2 (no (fun z => c2 z.2))
  unfold byA at p
  rw [if_pos ⟨Int32.not_lt.mp c1, c2⟩] at p
  obtain ⟨k, rfl, hk⟩ := nn_is c1 c2 (by omega)
  refine br_t c2 ⟨fs, h2, q, hr, vp_in_nI (by omega) hq31, ?_⟩
  rw [nI_clamp (by omega)] at p
  rw [show rA x q (nI k) = (nI (T k)).toInt8.toInt32 from by rw [rA_nI (by omega)]; exact hb k hk, byte_bk (hT k)]
  exact p
/-- the bytes behind a poke -/
def pkT (T : Nat → Nat) (n : Nat) (l1 l2 : Int32) : Nat → Nat := fun i => if (0 ≤ l1 ∧ l1 < nI n) ∧ i = l1.toNatClampNeg then uI l2 % 256 else T i
theorem and255 (v : Int32) : v &&& 255 = nI (uI v % 256) := by
  have := nI_255 (uI v)
  rw [nI_uI] at this
  exact this
theorem s_poke {post : Int32 → St → Prop} (hL : LM x) (hn : n ≤ 40000) (h65 : fI x 0 65 = nI n) (hT : ∀ i, i < n → fA x 41 i = nI (T i)) (p : ∀ y, Fg (fun o k => o = 0 ∧ k = 0) no2 no2 (fun a => a = 41) no1 x y → fI y 0 0 = 0 → (∀ i, i < n → fA y 41 i = nI (pkT T n l1 l2 i)) → post (pkA n l1) y) : wp_Mod_poke post l1 l2 x := by
  have l41 : fN (setI x 0 0 0) 41 = 40000 := hL 41
  have f0 : Fg (fun o k => o = 0 ∧ k = 0) no2 no2 (fun a => a = 41) no1 x (setI x 0 0 0) := Fg.i ⟨rfl, rfl⟩
  have no : ¬ (0 ≤ l1 ∧ l1 < nI n) → j_Mod_poke_17 post l1 l2 (setI x 0 0 0) := fun z => by
    have := p _ f0 gI_at (fun i hi => by unfold pkT; rw [if_neg (fun w => z w.1)]; exact hT i hi)
    unfold pkA at this
    rw [if_neg z] at this
    exact this
  unfold wp_Mod_poke
  refine nm_e ?_
  rw [show fI (setI x 0 0 0) 0 65 = fI x 0 65 from gI_ne (by decide), h65, l41]
  by_cases c1 : l1 < 0
  · exact br_t c1 (no (fun z => absurd c1 (Int32.not_lt.mpr z.1)))
  refine br_f c1 ?_
  by_cases c2 : l1 < nI n
  rotate_left
  · exact br_f c2 (no (fun z => c2 z.2))
  have yes : 0 ≤ l1 ∧ l1 < nI n := ⟨Int32.not_lt.mp c1, c2⟩
  obtain ⟨k, rfl, hk⟩ := nn_is c1 c2 (by omega)
  refine br_t c2 ⟨vp_in_nI (by omega) (by decide), nm_e ?_⟩
  have := p (setA (setI x 0 0 0) 41 (nI k) (l2 &&& 255)) (Fg.trans f0 (Fg.a rfl)) (show fI (setI x 0 0 0) 0 0 = 0 from gI_at) (fun i hi => by
    unfold pkT
    rw [nI_clamp (by omega)]
    by_cases e : i = k
    · rw [e, gA_on (by omega), if_pos ⟨yes, rfl⟩, and255]
    · rw [gA_off (by omega) e, if_neg (fun w => e w.2)]
      exact hT i hi)
  unfold pkA at this
  rw [if_pos yes] at this
  exact this
theorem sg_uI (v : Int32) : v.toInt8.toInt32 = (nI (uI v % 256)).toInt8.toInt32 := by
  have := nI_sg (uI v)
  rw [nI_uI] at this
  exact this
theorem k_poke {post : Int32 → St → Prop} {fs q : Nat} (hK : SkS x) (hfs : SnkId fs) (hn : n ≤ 40000) (h2 : fR x 0 2 = some fs) (hr : fR x fs 0 = some q) (hc : fI x fs 1 = nI n) (hqn : n ≤ fN x q) (hb : ∀ i, i < n → fA x q i = (nI (T i)).toInt8.toInt32) (p : ∀ y, SkS y → (∀ κ, Caps x κ → Caps y κ) → FK fs x y → y.1 = x.1 → fR y fs 0 = some q → fN y q = fN x q → (∀ i, i < n → fA y q i = (nI (pkT T n l1 l2 i)).toInt8.toInt32) → post (pkA n l1) y) : wp_V_poke post 0 l1 l2 x := by
  have hq31 := (cap31 hK hfs hr).1
  have no : ¬ (0 ≤ l1 ∧ l1 < nI n) → j_V_poke_15 post 0 l1 l2 x := fun z => by
    have := p x hK (fun _ h => h) (FX.refl x) rfl hr rfl (fun i hi => by unfold pkT; rw [if_neg (fun w => z w.1)]; exact hb i hi)
    unfold pkA at this
    rw [if_neg z] at this
    exact this
  unfold wp_V_poke
  by_cases c1 : l1 < 0
  · exact br_t c1 (no (fun z => absurd c1 (Int32.not_lt.mpr z.1)))
  refine br_f c1 ⟨fs, h2, ?_⟩
  rw [hc]
  by_cases c2 : l1 < nI n
  rotate_left
  · exact br_f c2 (no (fun z => c2 z.2))
  have yes : 0 ≤ l1 ∧ l1 < nI n := ⟨Int32.not_lt.mp c1, c2⟩
  obtain ⟨k, rfl, hk⟩ := nn_is c1 c2 (by omega)
  refine br_t c2 ⟨fs, h2, q, hr, vp_in_nI (by omega) hq31, nm_e ?_⟩
  rw [vnb, Int8.toInt8_toInt32]
  obtain ⟨m1, m2, m3, m4, m5, m6, m7⟩ := sk_set (i := k) (w := l2) hK hfs hr (by omega)
  have := p _ m1 m7 m2 m4 m5 m6 (fun i hi => by
    rw [m3]
    unfold pkT
    rw [nI_clamp (by omega)]
    by_cases e : i = k
    · rw [e, upd_at, if_pos ⟨yes, rfl⟩]
      exact sg_uI l2
    · rw [upd_ne e, if_neg (fun w => e w.2)]
      exact hb i hi)
  unfold pkA at this
  rw [if_pos yes] at this
  exact this
end
