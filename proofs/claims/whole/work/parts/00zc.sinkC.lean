/-! the class: sinks -/
def SnkId (s : Nat) : Prop := s = 1 ∨ s = 4 ∨ s = 7 ∨ s = 46 ∨ s = 49 ∨ s = 52 ∨ s = 55 ∨ s = 58 ∨ s = 147
def roomOf (s : Nat) : Nat := if s = 55 ∨ s = 58 then 32000 else if s = 147 then 100000 else 40000
def skRow (r : Nat) : Prop := r = 3 ∨ r = 6 ∨ r = 9 ∨ r = 48 ∨ r = 51 ∨ r = 54 ∨ r = 57 ∨ r = 60 ∨ r = 149 ∨ 152 ≤ r
theorem room_bd (s : Nat) : 32000 ≤ roomOf s ∧ roomOf s ≤ 100000 := by
  unfold roomOf
  split
  · decide
  · split <;> decide
/-- each sink has its own row -/
def SkS (x : St) : Prop := ∀ s, SnkId s → fI x s 3 = nI (roomOf s) ∧ ∃ q, fR x s 0 = some q ∧ skRow q ∧ 512 ≤ fN x q ∧ fN x q ≤ roomOf s ∧ sb_Fit (fA x q) ∧ ∀ t, SnkId t → fR x t 0 = some q → t = s
/-- a sink holds c bytes T, and was never too full -/
def HoldC (x : St) (s : Nat) (T : Nat → Int32) (c : Nat) : Prop := fI x s 1 = nI c ∧ fI x s 2 = 0 ∧ ∃ q, fR x s 0 = some q ∧ c ≤ fN x q ∧ ∀ i, i < c → fA x q i = (T i).toInt8.toInt32 ∧ 0 ≤ T i ∧ T i ≤ 255
/-- rows that somebody holds -/
def live (x : St) (r : Nat) : Prop := r < 152 ∨ ∃ a k, a < 152 ∧ fk (kcC a) k = 2 ∧ fR x a k = some r
/-- nothing but a sink has changed -/
def FrK (s : Nat) (x y : St) : Prop := (∀ o k, ¬ (o = s ∧ (k = 1 ∨ k = 2)) → y.1 o k = x.1 o k) ∧ y.2.1 = x.2.1 ∧ (∀ o k, ¬ (o = s ∧ k = 0) → y.2.2.1 o k = x.2.2.1 o k) ∧ (∀ r, live x r → fR x s 0 ≠ some r → y.2.2.2.1 r = x.2.2.2.1 r ∧ y.2.2.2.2.2 r = x.2.2.2.2.2 r) ∧ y.2.2.2.2.1 = x.2.2.2.2.1 ∧ (∀ r, r < 152 → y.2.2.2.2.2 r = x.2.2.2.2.2 r) ∧ (∀ r, fR y s 0 = some r → fR x s 0 = some r ∨ ¬ live x r)
theorem FrK.refl (s : Nat) (x : St) : FrK s x x := ⟨fun _ _ _ => rfl, rfl, fun _ _ _ => rfl, fun _ _ _ => ⟨rfl, rfl⟩, rfl, fun _ _ => rfl, fun _ h => Or.inl h⟩
/-- what growing gives -/
def grC (cap room c m : Nat) : Nat := if m ≤ cap - c then cap else min room (max (2 * cap) (c + m))
def kpot (cap room : Nat) : Nat := room - cap
def npot (cap room : Nat) : Nat := if cap < room then 3 * room - 2 * cap else 0
theorem gr_pot {cap room c m : Nat} (hc : c ≤ cap) (hr : cap ≤ room) (h0 : 0 < cap) (hm : m ≤ room - c) (hg : ¬ m ≤ cap - c) : cap < grC cap room c m ∧ grC cap room c m ≤ room ∧ c + m ≤ grC cap room c m ∧ 1 + kpot (grC cap room c m) room ≤ kpot cap room ∧ grC cap room c m + npot (grC cap room c m) room ≤ npot cap room := by
  unfold grC
  rw [if_neg hg]
  unfold kpot npot
  have a : min room (max (2 * cap) (c + m)) = room ∧ room ≤ max (2 * cap) (c + m) ∨ min room (max (2 * cap) (c + m)) = max (2 * cap) (c + m) ∧ max (2 * cap) (c + m) < room := by omega
  rcases a with ⟨e, a⟩ | ⟨e, a⟩
  · rw [e, if_neg (Nat.lt_irrefl _), if_pos (by omega)]
    omega
  · rw [e, if_pos a, if_pos (by omega)]
    omega
theorem nI_max {a b : Nat} (ha : a < 2 ^ 31) (hb : b < 2 ^ 31) : (if nI a < nI b then nI b else nI a) = nI (max a b) := by
  by_cases c : a < b
  · rw [if_pos ((nI_ltI ha hb).mpr c), Nat.max_eq_right (by omega)]
  · rw [if_neg (fun z => c ((nI_ltI ha hb).mp z)), Nat.max_eq_left (by omega)]
theorem nI_min {a b : Nat} (ha : a < 2 ^ 31) (hb : b < 2 ^ 31) : (if nI a < nI b then nI a else nI b) = nI (min a b) := by
  by_cases c : a < b
  · rw [if_pos ((nI_ltI ha hb).mpr c), Nat.min_eq_left (by omega)]
  · rw [if_neg (fun z => c ((nI_ltI ha hb).mp z)), Nat.min_eq_right (by omega)]
theorem c_hasRoom {post : Int32 → St → Prop} {x : St} {s q c m kb nb room : Nat} (ho : fI x s 2 = 0) (h1 : fI x s 1 = nI c) (h3 : fI x s 3 = nI room) (hR : fR x s 0 = some q) (hc : c ≤ fN x q) (hcap : fN x q ≤ room) (h0 : 0 < fN x q) (hr : room ≤ 100000) (hm : m ≤ room - c) (hF : sb_Fit (fA x q))
    (p1 : m ≤ fN x q - c → post 1 x)
    (p2 : ¬ m ≤ fN x q - c → ∀ b, 152 ≤ b → ¬ live x b → post 1 (setR (addRow x b (grC (fN x q) room c m) (va_cpy (fA x q) (fun _ => 0) 0 0 (fN x q))) s 0 (some b)))
    (hk : ¬ m ≤ fN x q - c → 1 ≤ kb ∧ grC (fN x q) room c m ≤ nb) : wp_Snk_hasRoom post s (nI m) kb nb x := by
  unfold wp_Snk_hasRoom j_Snk_hasRoom_75
  rw [h1, h3]
  have e1 : nI room - nI c = nI (room - c) := nI_sub (by omega)
  have e2 : nI (fN x q) - nI c = nI (fN x q - c) := nI_sub hc
  refine bn_t ho ?_
  rw [e1]
  refine br_t (nI_le hm (by omega)) ⟨q, hR, ?_⟩
  rw [e2]
  by_cases d : m ≤ fN x q - c
  · exact br_t (nI_le d (by omega)) (p1 d)
  · obtain ⟨g1, g2, g3, -, -⟩ := gr_pot hc hcap h0 hm d
    obtain ⟨k1, k2⟩ := hk d
    refine br_f (fun z => d ((nI_leI (by omega) (by omega)).mp z)) ⟨q, hR, q, hR, grC (fN x q) room c m, ?_, g1, by omega, fun i _ => hF i, kb - 1, nb - grC (fN x q) room c m, by omega, by omega, fun b y hb hf hy => nm_e ?_⟩
    · rw [show (2 : Int32) = nI 2 from rfl, nI_mul, nI_add, nI_max (by omega) (by omega), nI_min (by omega) (by omega)]
      unfold grC
      rw [if_neg d, Nat.min_comm]
    · rw [hy]
      refine p2 d b hb (fun z => ?_)
      rcases z with z | ⟨a, k, a1, a2, a3⟩
      · omega
      · exact hf a k a1 a2 a3
theorem live_sk {x : St} {t q : Nat} (ht : SnkId t) (h : fR x t 0 = some q) : live x q := by
  refine Or.inr ⟨t, 0, ?_, ?_, h⟩
  · rcases ht with rfl | rfl | rfl | rfl | rfl | rfl | rfl | rfl | rfl <;> decide
  · rcases ht with rfl | rfl | rfl | rfl | rfl | rfl | rfl | rfl | rfl <;> decide +kernel
theorem FrK.live {s r : Nat} {x y : St} (h : FrK s x y) (hl : live x r) (hn : fR x s 0 ≠ some r) : live y r ∧ fR y s 0 ≠ some r := by
  refine ⟨?_, fun z => ?_⟩
  · rcases hl with z | ⟨a, k, a1, a2, a3⟩
    · exact Or.inl z
    · refine Or.inr ⟨a, k, a1, a2, ?_⟩
      by_cases e : a = s ∧ k = 0
      · rw [e.1, e.2] at a3; exact absurd a3 hn
      · exact (h.2.2.1 a k e).trans a3
  · rcases h.2.2.2.2.2.2 r z with w | w
    · exact hn w
    · exact w hl
theorem FrK.trans {s : Nat} {x y z : St} (h : FrK s x y) (k : FrK s y z) : FrK s x z := by
  refine ⟨fun o i c => (k.1 o i c).trans (h.1 o i c), k.2.1.trans h.2.1, fun o i c => (k.2.2.1 o i c).trans (h.2.2.1 o i c), fun r a b => ?_, k.2.2.2.2.1.trans h.2.2.2.2.1, fun r a => (k.2.2.2.2.2.1 r a).trans (h.2.2.2.2.2.1 r a), fun r a => ?_⟩
  · have l := h.live a b
    have e1 := h.2.2.2.1 r a b
    have e2 := k.2.2.2.1 r l.1 l.2
    exact ⟨e2.1.trans e1.1, e2.2.trans e1.2⟩
  · by_cases c : fR x s 0 = some r
    · exact Or.inl c
    · refine Or.inr (fun l => ?_)
      have l2 := h.live l c
      rcases k.2.2.2.2.2.2 r a with w | w
      · exact l2.2 w
      · exact w l2.1
/-- more room: the same bytes in a new row -/
theorem grow_ok {x : St} {s q b N : Nat} (hK : SkS x) (hs : SnkId s) (hq : fR x s 0 = some q) (hb : 152 ≤ b) (hl : ¬ live x b) (hN : fN x q < N) (hN2 : N ≤ roomOf s) :
    SkS (setR (addRow x b N (va_cpy (fA x q) (fun _ => 0) 0 0 (fN x q))) s 0 (some b)) ∧ FrK s x (setR (addRow x b N (va_cpy (fA x q) (fun _ => 0) 0 0 (fN x q))) s 0 (some b)) ∧ fR (setR (addRow x b N (va_cpy (fA x q) (fun _ => 0) 0 0 (fN x q))) s 0 (some b)) s 0 = some b ∧ fN (setR (addRow x b N (va_cpy (fA x q) (fun _ => 0) 0 0 (fN x q))) s 0 (some b)) b = N ∧ ∀ i, i < fN x q → fA (setR (addRow x b N (va_cpy (fA x q) (fun _ => 0) 0 0 (fN x q))) s 0 (some b)) b i = fA x q i := by
  generalize hf : va_cpy (fA x q) (fun _ => 0) 0 0 (fN x q) = f
  have eR : ∀ a k, fR (setR (addRow x b N f) s 0 (some b)) a k = if a = s ∧ k = 0 then some b else fR x a k := fun _ _ => rfl
  have eA : ∀ r, fA (setR (addRow x b N f) s 0 (some b)) r = if r = b then f else fA x r := fun _ => rfl
  have eN : ∀ r, fN (setR (addRow x b N f) s 0 (some b)) r = if r = b then N else fN x r := fun _ => rfl
  have eI : ∀ o k, fI (setR (addRow x b N f) s 0 (some b)) o k = fI x o k := fun _ _ => rfl
  have hfit : sb_Fit f := by
    obtain ⟨-, q', a1, -, -, -, a5, -⟩ := hK s hs
    rw [hq] at a1
    rw [← hf]
    exact sb_fitC (by rw [Option.some.inj a1]; exact a5) sb_fit0
  refine ⟨?_, ?_, ?_, ?_, ?_⟩
  · intro t ht
    obtain ⟨a0, q', a1, a2, a3, a4, a5, a6⟩ := hK t ht
    refine ⟨a0, ?_⟩
    by_cases c : t = s
    · subst c
      obtain ⟨-, q2, c1, -, c3, -⟩ := hK t ht
      rw [hq] at c1
      have c1 := Option.some.inj c1
      refine ⟨b, by rw [eR, if_pos ⟨rfl, rfl⟩], by unfold skRow; omega, by rw [eN, if_pos rfl]; rw [← c1] at c3; omega, by rw [eN, if_pos rfl]; exact hN2, by rw [eA, if_pos rfl]; exact hfit, fun u hu e => ?_⟩
      rw [eR] at e
      by_cases d : u = t
      · exact d
      · rw [if_neg (fun z => d z.1)] at e
        exact absurd (live_sk hu e) hl
    · have nb : q' ≠ b := fun z => hl (by rw [← z]; exact live_sk ht a1)
      refine ⟨q', by rw [eR, if_neg (fun z => c z.1)]; exact a1, a2, by rw [eN, if_neg nb]; exact a3, by rw [eN, if_neg nb]; exact a4, by rw [eA, if_neg nb]; exact a5, fun u hu e => ?_⟩
      rw [eR] at e
      by_cases d : u = s
      · rw [if_pos ⟨d, rfl⟩] at e
        exact absurd (Option.some.inj e).symm nb
      · rw [if_neg (fun z => d z.1)] at e
        exact a6 u hu e
  · refine ⟨fun _ _ _ => rfl, rfl, fun o k c => ?_, fun r a c => ?_, rfl, fun r a => ?_, fun r a => ?_⟩
    · show (if o = s ∧ k = 0 then some b else x.2.2.1 o k) = _
      rw [if_neg c]
    · have nb : r ≠ b := fun z => hl (by rw [← z]; exact a)
      exact ⟨by show (if r = b then f else x.2.2.2.1 r) = _; rw [if_neg nb], by show (if r = b then N else x.2.2.2.2.2 r) = _; rw [if_neg nb]⟩
    · show (if r = b then N else x.2.2.2.2.2 r) = _
      rw [if_neg (by omega)]
    · rw [eR, if_pos ⟨rfl, rfl⟩] at a
      exact Or.inr (by rw [← Option.some.inj a]; exact hl)
  · rw [eR, if_pos ⟨rfl, rfl⟩]
  · rw [eN, if_pos rfl]
  · intro i hi
    rw [eA, if_pos rfl, ← hf]
    exact sb_cpy0 hi
/-- one byte comes into a sink that has room for it -/
theorem put_ok {x : St} {s q c : Nat} {T : Nat → Int32} {v : Int32} (hK : SkS x) (hs : SnkId s) (hq : fR x s 0 = some q) (h : HoldC x s T c) (hc : c < fN x q) (hv : 0 ≤ v ∧ v ≤ 255) :
    SkS (setI (setA x q (nI c) v.toInt8.toInt32) s 1 (nI (c + 1))) ∧ FrK s x (setI (setA x q (nI c) v.toInt8.toInt32) s 1 (nI (c + 1))) ∧ HoldC (setI (setA x q (nI c) v.toInt8.toInt32) s 1 (nI (c + 1))) s (fun i => if i = c then v else T i) (c + 1) := by
  obtain ⟨b1, b2, q', b3, b4, b5⟩ := h
  rw [hq] at b3
  have b3 := Option.some.inj b3
  subst b3
  have hcl : c < 2 ^ 31 := by
    obtain ⟨-, q2, c1, -, -, c4, -⟩ := hK s hs
    rw [hq] at c1
    have c1 := Option.some.inj c1
    have := (room_bd s).2
    rw [← c1] at c4
    omega
  have eA : ∀ r, fA (setI (setA x q (nI c) v.toInt8.toInt32) s 1 (nI (c + 1))) r = if r = q then upd (fA x q) c v.toInt8.toInt32 else fA x r := fun r => by
    show (if r = q then upd (x.2.2.2.1 q) (nI c).toNatClampNeg v.toInt8.toInt32 else x.2.2.2.1 r) = _
    rw [nI_clamp hcl]
  refine ⟨?_, ?_, ?_⟩
  · intro t ht
    obtain ⟨a0, q', a1, a2, a3, a4, a5, a6⟩ := hK t ht
    refine ⟨by rw [show fI (setI (setA x q (nI c) v.toInt8.toInt32) s 1 (nI (c + 1))) t 3 = fI x t 3 from by show (if t = s ∧ 3 = 1 then _ else _) = _; rw [if_neg (by omega)]; rfl]; exact a0, q', a1, a2, a3, a4, ?_, a6⟩
    rw [eA]
    by_cases e : q' = q
    · rw [if_pos e, ← e]
      exact sb_fitU a5 (pk_fb v)
    · rw [if_neg e]; exact a5
  · refine ⟨fun o k e => ?_, rfl, fun _ _ _ => rfl, fun r _ e => ⟨?_, rfl⟩, rfl, fun _ _ => rfl, fun _ e => Or.inl e⟩
    · show (if o = s ∧ k = 1 then _ else x.1 o k) = _
      rw [if_neg (fun z => e ⟨z.1, Or.inl z.2⟩)]
    · show fA _ r = fA x r
      rw [eA, if_neg (fun z => e (by rw [z]; exact hq))]
  · refine ⟨gI_at, by rw [gI_ne (by decide)]; exact b2, q, hq, hc, fun i hi => ?_⟩
    rw [eA, if_pos rfl]
    dsimp only
    by_cases e : i = c
    · rw [e, upd_at, if_pos rfl]
      exact ⟨rfl, hv⟩
    · rw [upd_ne e, if_neg e]
      exact b5 i (by omega)
theorem c_put {post : St → Prop} {x : St} {s q c kb nb : Nat} {T : Nat → Int32} {v w : Int32} (hK : SkS x) (hs : SnkId s) (hq : fR x s 0 = some q) (h : HoldC x s T c) (hc : c < roomOf s) (hv : 0 ≤ v ∧ v ≤ 255) (hw : w.toInt8.toInt32 = v.toInt8.toInt32)
    (hk : kpot (fN x q) (roomOf s) ≤ kb + kpot (grC (fN x q) (roomOf s) c 1) (roomOf s)) (hn : npot (fN x q) (roomOf s) ≤ nb + npot (grC (fN x q) (roomOf s) c 1) (roomOf s))
    (p : ∀ y q', SkS y → FrK s x y → HoldC y s (fun i => if i = c then v else T i) (c + 1) → fR y s 0 = some q' → fN y q' = grC (fN x q) (roomOf s) c 1 → post y) : wp_Snk_put post s w kb nb x := by
  have hR := (room_bd s).2
  obtain ⟨a0, q', a1, a2, a3, a4, a5, a6⟩ := hK s hs
  rw [hq] at a1
  have a1 := Option.some.inj a1
  subst a1
  have hcap : c ≤ fN x q := by
    obtain ⟨-, -, q2, c1, c2, -⟩ := h
    rw [hq] at c1
    have c1 := Option.some.inj c1
    rw [← c1] at c2
    exact c2
  have step : ∀ (y : St) (r : Nat), SkS y → FrK s x y → HoldC y s T c → fR y s 0 = some r → fN y r = grC (fN x q) (roomOf s) c 1 → c < fN y r → (∃ q8 : Nat, fR y s 0 = some q8 ∧ (vp_in (fI y s 1) (fN y q8) ∧ ∀ x9 : St, x9 = setA y q8 (fI y s 1) (vp_nar .byte (w : Int32).toInt8.toInt32) → (∀ x10 : St, x10 = setI x9 s 1 ((fI x9 s 1) + 1) → post x10))) := by
    intro y r b1 b2 b3 b4 b5 b6
    have hr2 : fN y r < 2 ^ 31 := by
      obtain ⟨-, q2, c1, -, -, c4, -⟩ := b1 s hs
      rw [b4] at c1
      have c1 := Option.some.inj c1
      rw [← c1] at c4
      omega
    obtain ⟨o1, o2, o3⟩ := put_ok b1 hs b4 b3 b6 hv
    refine ⟨r, b4, by rw [b3.1]; exact vp_in_nI b6 hr2, nm_r (e' := setA y r (nI c) v.toInt8.toInt32) ?_ (nm_r (e' := setI (setA y r (nI c) v.toInt8.toInt32) s 1 (nI (c + 1))) ?_ (p _ r o1 (b2.trans o2) o3 b4 b5))⟩
    · rw [b3.1, hw]
      congr 1
      show v.toInt8.toInt32.toInt8.toInt32 = v.toInt8.toInt32
      (first | omega | (simp (disch := omega) only [Int32.le_iff_toInt_le, Int32.lt_iff_toInt_lt, z_eq, z_in, nI_toInt, z_cl, z_m1, z_sg, z_255, Int32.reduceToInt] <;> omega) | (simp only [Int32.le_iff_toInt_le, Int32.lt_iff_toInt_lt, z_eq, z_in, z_add, z_sub, z_mul, z_neg, z_nI, z_cl, z_sg, z_255, z_lit, Int32.reduceToInt] <;> omega))
    · rw [show fI (setA y r (nI c) v.toInt8.toInt32) s 1 = fI y s 1 from rfl, b3.1, nI_1]
  unfold wp_Snk_put
  refine ⟨kb, nb, 0, 0, by omega, by omega, ?_⟩
  refine c_hasRoom (m := 1) (room := roomOf s) h.2.1 h.1 a0 hq hcap a4 (by omega) hR (by omega) a5 (fun d => br_f (by decide) (step x q hK (FrK.refl s x) h hq ?_ (by omega))) (fun d b hb hl => br_f (by decide) ?_) (fun d => ?_)
  · unfold grC; rw [if_pos d]
  · obtain ⟨g1, g2, g3, -, -⟩ := gr_pot hcap a4 (by omega) (show 1 ≤ roomOf s - c by omega) d
    obtain ⟨o1, o2, o3, o4, o5⟩ := grow_ok hK hs hq hb hl g1 g2
    refine step _ b o1 o2 ⟨h.1, h.2.1, b, o3, by rw [o4]; omega, fun i hi => ?_⟩ o3 o4 (by rw [o4]; omega)
    obtain ⟨-, -, q2, c1, c2, c3⟩ := h
    rw [hq] at c1
    have c1 := Option.some.inj c1
    rw [← c1] at c3
    rw [o5 i (by omega)]
    exact c3 i hi
  · obtain ⟨g1, g2, g3, g4, g5⟩ := gr_pot hcap a4 (by omega) (show 1 ≤ roomOf s - c by omega) d
    constructor
    · omega
    · omega
