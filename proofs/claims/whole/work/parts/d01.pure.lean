/-! pure rows: worlds and their predicates; no machine -/
theorem w_eq {x y : St} (h1 : x.1 = y.1) (h2 : x.2.1 = y.2.1) (h3 : x.2.2.1 = y.2.2.1) (h4 : x.2.2.2.1 = y.2.2.2.1) (h5 : x.2.2.2.2.1 = y.2.2.2.2.1) (h6 : x.2.2.2.2.2 = y.2.2.2.2.2) : x = y := by
  obtain ⟨a1, a2, a3, a4, a5, a6⟩ := x
  obtain ⟨b1, b2, b3, b4, b5, b6⟩ := y
  simp only at h1 h2 h3 h4 h5 h6
  subst h1 h2 h3 h4 h5 h6
  rfl
/-- a row of a world, put in its place as a whole -/
def putRow (x : St) (o : Nat) (f : Nat → Int32) : St := (x.1, x.2.1, x.2.2.1, fun a => if a = o then f else x.2.2.2.1 a, x.2.2.2.2)
theorem putRow_self (x : St) (o : Nat) : putRow x o (fA x o) = x := by
  apply w_eq <;> try rfl
  funext a
  show (if a = o then x.2.2.2.1 o else x.2.2.2.1 a) = x.2.2.2.1 a
  by_cases h : a = o
  · rw [if_pos h, h]
  · rw [if_neg h]
theorem setA_putRow {x : St} {o : Nat} {f : Nat → Int32} {i v : Int32} : setA (putRow x o f) o i v = putRow x o (upd f i.toNatClampNeg v) := by
  apply w_eq <;> try rfl
  funext a
  show (if a = o then upd (if o = o then f else x.2.2.2.1 o) i.toNatClampNeg v else (if a = o then f else x.2.2.2.1 a)) = if a = o then upd f i.toNatClampNeg v else x.2.2.2.1 a
  by_cases h : a = o
  · rw [if_pos h, if_pos h, if_pos rfl]
  · rw [if_neg h, if_neg h, if_neg h]
/-- begins() -/
theorem s_begins {post : St → Prop} {x : St} (h : post (setI (setI (setI (setI x 0 15 (fI x 0 4)) 0 4 0) 0 16 0) 0 17 (-1))) : wp_Mod_begins post x := by
  unfold wp_Mod_begins
  intro x1 e1 x2 e2 x3 e3 x4 e4
  subst e1; subst e2; subst e3; subst e4
  exact h
/-- look(): the byte at the place, or -1 at the end -/
theorem s_look {post : Int32 → St → Prop} {x : St} (h1 : fI x 0 15 ≤ fI x 0 16 → post (-1) x) (h2 : ¬ fI x 0 15 ≤ fI x 0 16 → vp_in (fI x 0 16) (fN x 2) ∧ post (rA x 2 (fI x 0 16)) x) : wp_Mod_look post x := by
  unfold wp_Mod_look
  exact ⟨h1, h2⟩
/-- the byte that feed lays at place i of its twenty -/
def fdB (v1 v2 v3 v4 v5 : Int32) (i : Nat) : Int32 := ((if 4 ≤ nI i then (if 8 ≤ nI i then (if 12 ≤ nI i then (if 16 ≤ nI i then v5 else v4) else v3) else v2) else v1) >>> ((24 - (8 * (nI i - nI i / 4 * 4))) &&& 31)) &&& 255
def fdN (g : Nat → Int32) (t : Nat) (v1 v2 v3 v4 v5 : Int32) (i : Nat) : Nat → Int32 := fun j => if t ≤ j ∧ j < t + i then fdB v1 v2 v3 v4 v5 (j - t) else g j
theorem fdN_0 (g : Nat → Int32) (t : Nat) (v1 v2 v3 v4 v5 : Int32) : fdN g t v1 v2 v3 v4 v5 0 = g := by
  funext j
  rw [fdN, if_neg (by omega)]
theorem fdN_step {g : Nat → Int32} {t i : Nat} {v1 v2 v3 v4 v5 y : Int32} (hy : y = fdB v1 v2 v3 v4 v5 i) : upd (fdN g t v1 v2 v3 v4 v5 i) (t + i) y = fdN g t v1 v2 v3 v4 v5 (i + 1) := by
  rw [hy]
  funext j
  by_cases e : j = t + i
  · subst e
    rw [upd, if_pos rfl, fdN, if_pos (by omega), show t + i - t = i by omega]
  · rw [upd, if_neg e, fdN, fdN]
    by_cases q : t ≤ j ∧ j < t + i
    · rw [if_pos q, if_pos (by omega)]
    · rw [if_neg q, if_neg (by omega)]
theorem s_feed_loop {post : Int32 → St → Prop} {v1 v2 v3 v4 v5 : Int32} {x : St} {g : Nat → Int32} {t : Nat} (ht : t + 20 ≤ 40000) (h3 : fI x 0 3 = nI t) (hN : fN x 1 = 40000) (h : post 1 (setI (putRow x 1 (fdN g t v1 v2 v3 v4 v5 20)) 0 3 (nI (t + 20)))) :
    ∀ (n i : Nat), i + n = 20 → wl_Mod_feed_22 post (n + 1) v1 v2 v3 v4 v5 (nI i) (putRow x 1 (fdN g t v1 v2 v3 v4 v5 i)) := by
  intro n
  induction n with
  | zero =>
    intro i hi
    have e : i = 20 := by omega
    subst e
    show j_Mod_feed_22 post _ v1 v2 v3 v4 v5 (nI 20) _
    unfold j_Mod_feed_22
    refine ⟨fun _ y ey => ?_, fun z => absurd (by decide) z⟩
    subst ey
    have e3 : fI (putRow x 1 (fdN g t v1 v2 v3 v4 v5 20)) 0 3 + 20 = nI (t + 20) := by
      show fI x 0 3 + 20 = _
      rw [h3, show (20 : Int32) = nI 20 from rfl, nI_add]
    rw [e3]
    exact h
  | succ n ih =>
    intro i hi
    show j_Mod_feed_22 post (wl_Mod_feed_22 post (n + 1)) v1 v2 v3 v4 v5 (nI i) _
    have hlt : i < 20 := by omega
    have step : ∀ s0 : Int32, s0 = (if 4 ≤ nI i then (if 8 ≤ nI i then (if 12 ≤ nI i then (if 16 ≤ nI i then v5 else v4) else v3) else v2) else v1) → j_Mod_feed_75 post (wl_Mod_feed_22 post (n + 1)) v1 v2 v3 v4 v5 (nI i) s0 (putRow x 1 (fdN g t v1 v2 v3 v4 v5 i)) := by
      intro s0 e0
      unfold j_Mod_feed_75
      have ei : fI (putRow x 1 (fdN g t v1 v2 v3 v4 v5 i)) 0 3 + nI i = nI (t + i) := by
        show fI x 0 3 + nI i = _
        rw [h3, nI_add]
      rw [ei]
      refine ⟨?_, fun y ey => ?_⟩
      · show vp_in (nI (t + i)) (fN x 1)
        rw [hN]
        exact vp_in_nI (by omega) (by decide)
      · subst ey
        rw [setA_putRow, nI_clamp (by omega), fdN_step (by rw [e0]; rfl), nI_1]
        exact ih (i + 1) (by omega)
    unfold j_Mod_feed_22
    refine ⟨fun z => ?_, fun _ => ⟨fun c4 => ⟨fun c8 => ⟨fun c12 => ⟨fun c16 => step _ (by simp [c4, c8, c12, c16]), fun c16 => step _ (by simp [c4, c8, c12, c16])⟩, fun c12 => step _ (by simp [c4, c8, c12])⟩, fun c8 => step _ (by simp [c4, c8])⟩, fun c4 => step _ (by simp [c4])⟩⟩
    have hz : 20 ≤ i := (nI_leI (a := 20) (b := i) (by decide) (by omega)).mp z
    omega
/-- feed, as the model does it: 20 bytes more on the tape where there is room -/
theorem s_feed {post : Int32 → St → Prop} {v1 v2 v3 v4 v5 : Int32} {x : St} {t : Nat} (ht : t ≤ 40000) (h3 : fI x 0 3 = nI t) (hN : fN x 1 = 40000)
    (h1 : t + 20 ≤ 40000 → post 1 (setI (putRow (setI x 0 0 0) 1 (fdN (fA x 1) t v1 v2 v3 v4 v5 20)) 0 3 (nI (t + 20)))) (h0 : ¬ t + 20 ≤ 40000 → post 0 (setI x 0 0 0)) : wp_Mod_feed post v1 v2 v3 v4 v5 x := by
  unfold wp_Mod_feed
  intro y ey
  subst ey
  have e3 : fI (setI x 0 0 0) 0 3 = nI t := h3
  have e20 : fI (setI x 0 0 0) 0 3 + 20 = nI (t + 20) := by rw [e3, show (20 : Int32) = nI 20 from rfl, nI_add]
  rw [e20, show (40000 : Int32) = nI 40000 from rfl]
  refine ⟨fun z => ⟨21, ?_⟩, fun z => h0 (fun q => z (nI_le q (by decide)))⟩
  have hz : t + 20 ≤ 40000 := (nI_leI (by omega) (by decide)).mp z
  have l := s_feed_loop (post := post) (v1 := v1) (v2 := v2) (v3 := v3) (v4 := v4) (v5 := v5) (x := setI x 0 0 0) (g := fA x 1) hz e3 hN (h1 hz) 20 0 (by omega)
  rw [fdN_0] at l
  have e : putRow (setI x 0 0 0) 1 (fA x 1) = setI x 0 0 0 := putRow_self (setI x 0 0 0) 1
  rw [e] at l
  exact l
