/-! the class: feed -/
/-- the capacity behind m single bytes -/
def cpN (cap room c : Nat) : Nat → Nat
  | 0 => cap
  | m + 1 => grC (cpN cap room c m) room (c + m) 1
theorem gr_mono {cap room c m : Nat} (hc : c ≤ cap) (hr : cap ≤ room) (h0 : 0 < cap) (hm : m ≤ room - c) : kpot (grC cap room c m) room ≤ kpot cap room ∧ npot (grC cap room c m) room ≤ npot cap room ∧ c + m ≤ grC cap room c m ∧ grC cap room c m ≤ room ∧ cap ≤ grC cap room c m := by
  by_cases d : m ≤ cap - c
  · unfold grC
    rw [if_pos d]
    omega
  · obtain ⟨g1, g2, g3, g4, g5⟩ := gr_pot hc hr h0 hm d
    omega
theorem cpN_ok {cap room c : Nat} (hc : c ≤ cap) (hr : cap ≤ room) (h0 : 0 < cap) : ∀ {m : Nat}, c + m ≤ room → c + m ≤ cpN cap room c m ∧ cpN cap room c m ≤ room ∧ 0 < cpN cap room c m := by
  intro m
  induction m with
  | zero => intro _; exact ⟨hc, hr, h0⟩
  | succ m ih =>
    intro h
    obtain ⟨i1, i2, i3⟩ := ih (by omega)
    have g := @gr_mono (cpN cap room c m) room (c + m) 1 i1 i2 i3 (by omega)
    show c + (m + 1) ≤ grC (cpN cap room c m) room (c + m) 1 ∧ grC (cpN cap room c m) room (c + m) 1 ≤ room ∧ 0 < grC (cpN cap room c m) room (c + m) 1
    omega
theorem cpN_le {cap room c : Nat} (hc : c ≤ cap) (hr : cap ≤ room) (h0 : 0 < cap) : ∀ {m j : Nat}, j ≤ m → c + m ≤ room → kpot (cpN cap room c m) room ≤ kpot (cpN cap room c j) room ∧ npot (cpN cap room c m) room ≤ npot (cpN cap room c j) room := by
  intro m
  induction m with
  | zero => intro j hj _; have e : j = 0 := by omega
            subst e; exact ⟨Nat.le_refl _, Nat.le_refl _⟩
  | succ m ih =>
    intro j hj h
    by_cases e : j = m + 1
    · subst e; exact ⟨Nat.le_refl _, Nat.le_refl _⟩
    · obtain ⟨k1, k2⟩ := ih (show j ≤ m by omega) (by omega)
      obtain ⟨i1, i2, i3⟩ := @cpN_ok cap room c hc hr h0 m (by omega)
      have g := @gr_mono (cpN cap room c m) room (c + m) 1 i1 i2 i3 (by omega)
      show kpot (grC (cpN cap room c m) room (c + m) 1) room ≤ _ ∧ npot (grC (cpN cap room c m) room (c + m) 1) room ≤ _
      omega
theorem cpN_add {cap room c i : Nat} : ∀ {m : Nat}, cpN (cpN cap room c i) room (c + i) m = cpN cap room c (i + m) := by
  intro m
  induction m with
  | zero => rfl
  | succ m ih =>
    show grC (cpN (cpN cap room c i) room (c + i) m) room (c + i + m) 1 = grC (cpN cap room c (i + m)) room (c + (i + m)) 1
    rw [ih, Nat.add_assoc]
theorem HoldC.cg {x : St} {s c : Nat} {T U : Nat → Int32} (h : HoldC x s T c) (e : ∀ i, i < c → T i = U i) : HoldC x s U c := by
  obtain ⟨h1, h2, q, h3, h4, h5⟩ := h
  exact ⟨h1, h2, q, h3, h4, fun i hi => by rw [← e i hi]; exact h5 i hi⟩
theorem c_layFour {post : St → Prop} {x : St} {s q c kb nb : Nat} {T : Nat → Int32} {v : Int32} (hK : SkS x) (hs : SnkId s) (h0 : fR x 0 0 = some s) (hq : fR x s 0 = some q) (h : HoldC x s T c) (hc : c + 4 ≤ roomOf s)
    (hk : kpot (fN x q) (roomOf s) ≤ kb + kpot (cpN (fN x q) (roomOf s) c 4) (roomOf s)) (hn : npot (fN x q) (roomOf s) ≤ nb + npot (cpN (fN x q) (roomOf s) c 4) (roomOf s))
    (p : ∀ y q', SkS y → FrK s x y → HoldC y s (app T c (fun j => byt v (3 - j))) (c + 4) → fR y s 0 = some q' → fN y q' = cpN (fN x q) (roomOf s) c 4 → post y) : wp_V_layFour post 0 v kb nb x := by
  have hs0 : s ≠ 0 := by rcases hs with rfl | rfl | rfl | rfl | rfl | rfl | rfl | rfl | rfl <;> decide
  obtain ⟨a0, q', a1, a2, a3, a4, a5, a6⟩ := hK s hs
  rw [hq] at a1
  have a1 := Option.some.inj a1
  subst a1
  have hcap : c ≤ fN x q := by
    obtain ⟨-, -, q2, c1, c2, -⟩ := h
    rw [hq] at c1
    have c1 := Option.some.inj c1
    rw [← c1] at c2
    exact c2
  have hcl := (room_bd s).2
  generalize hcp : fN x q = cap at *
  unfold wp_V_layFour
  refine lp_V_layFour_3 (fun b0 b1 b2 b3 b4 y => 0 = b0 ∧ v = b1 ∧ ∃ (i q' : Nat), i ≤ 4 ∧ b2.toInt = 24 - 8 * (i : Int) ∧ SkS y ∧ FrK s x y ∧ HoldC y s (app T c (fun j => byt v (3 - j))) (c + i) ∧ fR y s 0 = some q' ∧ fN y q' = cpN cap (roomOf s) c i ∧ kpot (cpN cap (roomOf s) c i) (roomOf s) ≤ b3 + kpot (cpN cap (roomOf s) c 4) (roomOf s) ∧ npot (cpN cap (roomOf s) c i) (roomOf s) ≤ b4 + npot (cpN cap (roomOf s) c 4) (roomOf s)) (fun _ _ b2 _ _ _ => (b2.toInt + 8).toNat) ?_ _ _ _ _ _ _ ⟨rfl, rfl, 0, q, by decide, by decide, hK, FrK.refl s x, h.cg (fun i hi => by unfold app; rw [if_pos hi]), hq, hcp, hk, hn⟩
  rintro R b0 b1 b2 b3 b4 y ⟨rfl, rfl, i, q', hi, e2, k1, k2, k3, k4, k5, k6, k7⟩ ih
  unfold j_V_layFour_3
  by_cases d : i < 4
  · have hb : b2 = nI (8 * (3 - i)) := by
      rw [z_eq, z_nI, e2]
      omega
    refine br_f (by rw [Int32.lt_iff_toInt_lt, e2]; show ¬ (24 - 8 * (i : Int) < 0); omega) ⟨s, (k2.2.2.1 0 0 (fun z => hs0 z.1.symm)).trans h0, ?_⟩
    have m1 := cpN_le hcap a4 (by omega) (show i ≤ i + 1 by omega) (show c + (i + 1) ≤ roomOf s by omega)
    have m2 := cpN_le hcap a4 (by omega) (show i + 1 ≤ 4 by omega) (show c + 4 ≤ roomOf s by omega)
    refine ⟨kpot (cpN cap (roomOf s) c i) (roomOf s) - kpot (cpN cap (roomOf s) c (i + 1)) (roomOf s), npot (cpN cap (roomOf s) c i) (roomOf s) - npot (cpN cap (roomOf s) c (i + 1)) (roomOf s), b3 - (kpot (cpN cap (roomOf s) c i) (roomOf s) - kpot (cpN cap (roomOf s) c (i + 1)) (roomOf s)), b4 - (npot (cpN cap (roomOf s) c i) (roomOf s) - npot (cpN cap (roomOf s) c (i + 1)) (roomOf s)), by omega, by omega, ?_⟩
    refine c_put (v := byt v (3 - i)) k1 hs k4 k3 (by omega) (byt_bd _ _) (by rw [hb]; exact byt_u (by omega)) ?_ ?_ (fun z q2 z1 z2 z3 z4 z5 => ?_)
    · rw [k5]
      show _ ≤ _ + kpot (cpN cap (roomOf s) c (i + 1)) (roomOf s)
      omega
    · rw [k5]
      show _ ≤ _ + npot (cpN cap (roomOf s) c (i + 1)) (roomOf s)
      omega
    · have hb2 : (b2 + (-8)).toInt = 24 - 8 * ((i + 1 : Nat) : Int) := by
        rw [z_add, e2, show ((-8 : Int32)).toInt = -8 from by decide]
        omega
      refine ih _ _ _ _ _ _ ⟨rfl, rfl, i + 1, q2, by omega, hb2, z1, k2.trans z2, z3.cg (fun j hj => ?_), z4, by rw [z5, k5]; rfl, by omega, by omega⟩ ?_
      · by_cases e : j = c + i
        · subst e
          rw [if_pos rfl]
          unfold app
          rw [if_neg (by omega), show c + i - c = i by omega]
        · rw [if_neg e]
      · show ((b2 + (-8)).toInt + 8).toNat < (b2.toInt + 8).toNat
        rw [hb2, e2]
        omega
  · have e : i = 4 := by omega
    subst e
    exact br_t (by rw [Int32.lt_iff_toInt_lt, e2]; show (24 - 8 * (4 : Int) < 0); omega) (p y q' k1 k2 k3 k4 k5)
/-- four bytes of twenty: behind 4 i of them -/
theorem lay_step {P : Nat → Nat → St → Prop} {x y : St} {s q c cap i kb nb : Nat} {U : Nat → Int32} {v : Int32} (hs : SnkId s) (h0 : fR x 0 0 = some s) (hc : c + 20 ≤ roomOf s) (hcc : c ≤ cap) (hcr : cap ≤ roomOf s) (hc0 : 0 < cap) (hi : i ≤ 4)
    (hK : SkS y) (hF : FrK s x y) (hq : fR y s 0 = some q) (hN : fN y q = cpN cap (roomOf s) c (4 * i)) (h : HoldC y s U (c + 4 * i))
    (hk : kpot (cpN cap (roomOf s) c (4 * i)) (roomOf s) ≤ kb + kpot (cpN cap (roomOf s) c 20) (roomOf s)) (hn : npot (cpN cap (roomOf s) c (4 * i)) (roomOf s) ≤ nb + npot (cpN cap (roomOf s) c 20) (roomOf s))
    (p : ∀ k n z q', SkS z → FrK s x z → fR z s 0 = some q' → fN z q' = cpN cap (roomOf s) c (4 * (i + 1)) → HoldC z s (app U (c + 4 * i) (fun j => byt v (3 - j))) (c + 4 * (i + 1)) → kpot (cpN cap (roomOf s) c (4 * (i + 1))) (roomOf s) ≤ k + kpot (cpN cap (roomOf s) c 20) (roomOf s) → npot (cpN cap (roomOf s) c (4 * (i + 1))) (roomOf s) ≤ n + npot (cpN cap (roomOf s) c 20) (roomOf s) → P k n z) :
    ∃ k1 n1 k2 n2 : Nat, k1 + k2 = kb ∧ n1 + n2 = nb ∧ wp_V_layFour (fun z => P k2 n2 z) 0 v k1 n1 y := by
  have hs0 : s ≠ 0 := by rcases hs with rfl | rfl | rfl | rfl | rfl | rfl | rfl | rfl | rfl <;> decide
  have e4 : cpN (cpN cap (roomOf s) c (4 * i)) (roomOf s) (c + 4 * i) 4 = cpN cap (roomOf s) c (4 * (i + 1)) := by rw [cpN_add]; rfl
  have m1 := cpN_le hcc hcr hc0 (show 4 * i ≤ 4 * (i + 1) by omega) (show c + 4 * (i + 1) ≤ roomOf s by omega)
  have m2 := cpN_le hcc hcr hc0 (show 4 * (i + 1) ≤ 20 by omega) hc
  refine ⟨kpot (cpN cap (roomOf s) c (4 * i)) (roomOf s) - kpot (cpN cap (roomOf s) c (4 * (i + 1))) (roomOf s), npot (cpN cap (roomOf s) c (4 * i)) (roomOf s) - npot (cpN cap (roomOf s) c (4 * (i + 1))) (roomOf s), kb - (kpot (cpN cap (roomOf s) c (4 * i)) (roomOf s) - kpot (cpN cap (roomOf s) c (4 * (i + 1))) (roomOf s)), nb - (npot (cpN cap (roomOf s) c (4 * i)) (roomOf s) - npot (cpN cap (roomOf s) c (4 * (i + 1))) (roomOf s)), by omega, by omega, ?_⟩
  refine c_layFour hK hs ((hF.2.2.1 0 0 (fun z => hs0 z.1.symm)).trans h0) hq h (by omega) (by rw [hN, e4]; omega) (by rw [hN, e4]; omega) (fun z q' z1 z2 z3 z4 z5 => ?_)
  rw [hN, e4] at z5
  exact p _ _ z q' z1 (hF.trans z2) z4 z5 (by rw [show c + 4 * (i + 1) = c + 4 * i + 4 by omega]; exact z3) (by omega) (by omega)
theorem c_feed {post : Int32 → St → Prop} {x : St} {s q c kb nb : Nat} {T : Nat → Int32} {v1 v2 v3 v4 v5 : Int32} (hK : SkS x) (hs : SnkId s) (hroom : roomOf s = 40000) (h0 : fR x 0 0 = some s) (hq : fR x s 0 = some q) (h : HoldC x s T c) (hc : c ≤ 40000)
    (hk : kpot (fN x q) 40000 ≤ kb + kpot (cpN (fN x q) 40000 c 20) 40000) (hn : npot (fN x q) 40000 ≤ nb + npot (cpN (fN x q) 40000 c 20) 40000)
    (p1 : c + 20 ≤ 40000 → ∀ y q', SkS y → FrK s x y → HoldC y s (app T c (b20 v1 v2 v3 v4 v5)) (c + 20) → fR y s 0 = some q' → fN y q' = cpN (fN x q) 40000 c 20 → post 1 y)
    (p0 : ¬ c + 20 ≤ 40000 → post 0 x) : wp_V_feed post 0 v1 v2 v3 v4 v5 kb nb x := by
  obtain ⟨a0, q', a1, a2, a3, a4, a5, a6⟩ := hK s hs
  rw [hq] at a1
  have a1 := Option.some.inj a1
  subst a1
  have hcap : c ≤ fN x q := by
    obtain ⟨-, -, q2, c1, c2, -⟩ := h
    rw [hq] at c1
    have c1 := Option.some.inj c1
    rw [← c1] at c2
    exact c2
  unfold wp_V_feed
  refine ⟨s, h0, ?_⟩
  rw [h.1, show (20 : Int32) = nI 20 from rfl, nI_add, show (40000 : Int32) = nI 40000 from rfl]
  by_cases d : c + 20 ≤ 40000
  · refine br_t (nI_le d (by decide)) ?_
    have hr : c + 20 ≤ roomOf s := by omega
    rw [← hroom] at hk hn
    refine lay_step (i := 0) hs h0 hr hcap a4 (by omega) (by decide) hK (FrK.refl s x) hq rfl h hk hn (fun k n y1 q1 z1 z2 z3 z4 z5 z6 z7 => ?_)
    refine lay_step (i := 1) hs h0 hr hcap a4 (by omega) (by decide) z1 z2 z3 z4 z5 z6 z7 (fun k n y2 q2 z1 z2 z3 z4 z5 z6 z7 => ?_)
    refine lay_step (i := 2) hs h0 hr hcap a4 (by omega) (by decide) z1 z2 z3 z4 z5 z6 z7 (fun k n y3 q3 z1 z2 z3 z4 z5 z6 z7 => ?_)
    refine lay_step (i := 3) hs h0 hr hcap a4 (by omega) (by decide) z1 z2 z3 z4 z5 z6 z7 (fun k n y4 q4 z1 z2 z3 z4 z5 z6 z7 => ?_)
    refine lay_step (i := 4) hs h0 hr hcap a4 (by omega) (by decide) z1 z2 z3 z4 z5 z6 z7 (fun k n y5 q5 z1 z2 z3 z4 z5 z6 z7 => ?_)
    refine p1 d y5 q5 z1 z2 (z5.cg (fun i hi => ?_)) z3 (by rw [z4, hroom])
    unfold app b20
    by_cases c0 : i < c
    · rw [if_pos (by omega), if_pos (by omega), if_pos (by omega), if_pos (by omega), if_pos (by omega), if_pos c0]
    rw [if_neg (show ¬ i < c from c0)]
    by_cases c1 : i - c < 4
    · rw [if_pos (by omega), if_pos (by omega), if_pos (by omega), if_pos (by omega), if_neg (by omega), if_pos c1, show i - (c + 4 * 0) = (i - c) % 4 by omega]
    by_cases c2 : i - c < 8
    · rw [if_pos (by omega), if_pos (by omega), if_pos (by omega), if_neg (by omega), if_neg c1, if_pos c2, show i - (c + 4 * 1) = (i - c) % 4 by omega]
    by_cases c3 : i - c < 12
    · rw [if_pos (by omega), if_pos (by omega), if_neg (by omega), if_neg c1, if_neg c2, if_pos c3, show i - (c + 4 * 2) = (i - c) % 4 by omega]
    by_cases c4 : i - c < 16
    · rw [if_pos (by omega), if_neg (by omega), if_neg c1, if_neg c2, if_neg c3, if_pos c4, show i - (c + 4 * 3) = (i - c) % 4 by omega]
    · rw [if_neg (by omega), if_neg c1, if_neg c2, if_neg c3, if_neg c4, show i - (c + 4 * 4) = (i - c) % 4 by omega]
  · exact br_f (fun z => d ((nI_leI (by omega) (by decide)).mp z)) (p0 d)
